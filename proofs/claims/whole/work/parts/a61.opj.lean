/-! calls: merge -/
section EQS
variable {qs : List Nat} {ad : Nat → Nat → Nat} {T : CS} {R : AR}
theorem sw_B_haveEqualShares {post : Int → CS → Prop} (hq : qs.Nodup) (hl : qs.length = 30) (h : BK qs ad T R) (w : WR R) (wn : WNl R) (wt : WT R) (wb : WSb R) {a b : Nat} {day : Int} (a1 : 1 ≤ a) (a2 : a ≤ R.1 7 0) (b1 : 1 ≤ b) (b2 : b ≤ R.1 7 0) (hd : inR day) (p1 : ∀ T', Tw (fun a => a = qa qs 26 ∨ a = qa qs 27) T T' → (∀ p, p < 100 → aShare R a p day (R.1 15 0) = aShare R b p day (R.1 15 0)) → post 1 T') (p0 : ∀ T', Tw (fun a => a = qa qs 26 ∨ a = qa qs 27) T T' → ¬ (∀ p, p < 100 → aShare R a p day (R.1 15 0) = aShare R b p day (R.1 15 0)) → post 0 T') : wp_BRg_haveEqualShares post (qa qs 22) a b day T := by
  have w0 := w.1.2.1
  have lta := h.2.2.2.2.2.2.1 a a1 a2
  have ltb := h.2.2.2.2.2.2.1 b b1 b2
  have s26 : scr qs (qa qs 26) := ⟨26, by omega, rfl⟩
  have s27 : scr qs (qa qs 27) := ⟨27, by omega, rfl⟩
  have n67 : qa qs 26 ≠ qa qs 27 := fun q => by have := qa_inj hq hl (i := 26) (j := 27) (by omega) (by omega) q; omega
  unfold wp_BRg_haveEqualShares
  refine ⟨h.1.tag (by omega) rfl, sp_B_lastEntry h ⟨h.1.tag (by omega) rfl, qa qs 26, h.1.ref (by omega) rfl (by omega), h.1.tag (by omega) rfl, sp_B_tellShares h w wn wt a1 a2 hd (by unfold inR; omega) (h.1.tag (by omega) rfl) (h.1.len (by omega) rfl) (fun q => lta.2.2.2.2.2.2.1.2.2 (by rw [q]; exact qa_mem hl (by omega))) (fun T' f => h.tx hq hl (Tw_mono f (fun a q => by rw [q]; exact s26)).tx) (fun T1 f1 g1 => ?_)⟩⟩
  have f1' := Tw_mono f1 (fun a q => show scr qs a by rw [q]; exact s26)
  have h1 := h.tx hq hl f1'.tx
  refine ⟨h1.1.tag (by omega) rfl, sp_B_lastEntry h1 ⟨h1.1.tag (by omega) rfl, qa qs 27, h1.1.ref (by omega) rfl (by omega), h1.1.tag (by omega) rfl, sp_B_tellShares h1 w wn wt b1 b2 hd (by unfold inR; omega) (h1.1.tag (by omega) rfl) (h1.1.len (by omega) rfl) (fun q => ltb.2.2.2.2.2.2.1.2.2 (by rw [q]; exact qa_mem hl (by omega))) (fun T' f => h1.tx hq hl (Tw_mono f (fun a q => by rw [q]; exact s27)).tx) (fun T2 f2 g2 => ⟨101, ?_⟩)⟩⟩
  have f2' := Tw_mono f2 (fun a q => show scr qs a by rw [q]; exact s27)
  have h2 := h1.tx hq hl f2'.tx
  have f12 : Tw (fun a => a = qa qs 26 ∨ a = qa qs 27) T T2 := Tw_trans (Tw_mono f1 (fun a q => Or.inl q)) (Tw_mono f2 (fun a q => Or.inr q))
  have g1' : ∀ p, p < 100 → fi T2 (qa qs 26) p = aShare R a p day (R.1 15 0) := fun p hp => by rw [f2.2.2.2 _ n67]; exact g1 p hp
  have loop : ∀ (n k : Nat), 100 - k < n → k ≤ 100 → (∀ p, p < k → aShare R a p day (R.1 15 0) = aShare R b p day (R.1 15 0)) → wp_BRg_haveEqualShares_31 post n (qa qs 22) k T2 := by
    intro n
    induction n with
    | zero => intro k hn; omega
    | succ n ih =>
      intro k hn hk hall
      have e1 : (k : Int) + 1 = ((k + 1 : Nat) : Int) := by omega
      unfold wp_BRg_haveEqualShares_31
      rw [e1, Int.toNat_natCast]
      refine ⟨by unfold inR; omega, fun c => p1 T2 f12 (fun p hp => hall p (by omega)), fun c => ⟨h2.1.tag (by omega) rfl, qa qs 26, h2.1.ref (by omega) rfl (by omega), h2.1.tag (by omega) rfl, ?_⟩⟩
      rw [h2.1.len (by omega) (show t0_len 26 = 100 from rfl)]
      refine ⟨⟨by omega, by omega⟩, h2.1.tag (by omega) rfl, qa qs 27, h2.1.ref (by omega) rfl (by omega), h2.1.tag (by omega) rfl, ?_⟩
      rw [h2.1.len (by omega) (show t0_len 27 = 100 from rfl), g1' k (by omega), g2 k (by omega)]
      refine ⟨⟨by omega, by omega⟩, wb a k day _ a1 a2 (by omega), wb b k day _ b1 b2 (by omega), fun d => ih (k + 1) (by omega) (by omega) (fun p hp => ?_), fun d => p0 T2 f12 (fun q => d (q k (by omega)))⟩
      by_cases r : p = k
      · rw [r]; exact d
      · exact hall p (by omega)
  exact loop 101 0 (by omega) (by omega) (fun p hp => by omega)
end EQS
section OPJ
variable {qs : List Nat}
theorem Tx_fresho {P : Nat → Prop} {T T1 T' : CS} {q j : Nat} {o : Option Nat} (h : Tx P T T1) (hq : tg T q = 0) (y : T' = cs_o T1 q j o) : Tx P T T' := by
  intro a ha
  obtain ⟨h1, h2, h3, h4⟩ := h a ha
  have hne : a ≠ q := fun r => by rw [r] at ha; exact ha hq
  refine ⟨by rw [y]; exact h1, by rw [y]; exact h2, ?_, fun r => by rw [y]; exact h4 r⟩
  rw [← h3, y]
  funext i
  rw [cs_o_fo, if_neg (fun r => hne r.1)]
theorem bt_step {ad ad' : Nat → Nat → Nat} {T T' : CS} {R R' : AR} {kd dy m pa pb rel g o : Nat} {ns : List Nat} {body : List Int} (hb : bt ad T R) (F : WF R) (st : DStp R R' kd dy ns m pa pb rel g o body) (h1 : ∀ l, 1 ≤ l → l ≤ R.1 7 0 → ln T' (ad' 7 l) = ln T (ad 7 l)) (h2 : ∀ l, R.1 7 0 < l → l ≤ R.1 7 0 + m → ln T' (ad' 7 l) ≤ R.1 25 0 + 1) : bt ad' T' R' := by
  intro l l1 l2
  rw [st.1.2.1] at l2
  by_cases k : l ≤ R.1 7 0
  · have dl := F.dl l1 k
    rw [(st.2.2.2.1 l k).2.1.1, (st.2.1 (R.1 11 l) dl.1).1 23 (by omega) (by omega), h1 l l1 k]
    exact hb l l1 k
  · rw [(st.2.2.2.2.1 l (by omega) l2).1.1, if_neg (by omega), st.2.2.1.2.2.2.1]
    have := h2 l (by omega) l2
    omega
theorem ring_lot1 {R : AR} {kd dy a b c p x y z d pa pb v : Nat} {nm : List Nat} {body : List Int} {sh : Nat → Int} {ih : Nat → Bool} {K : List PT} (l : Nat) : aRing (rLots d pa pb sh ih [K] (rEnds v nm (rEnt R kd dy a b c p x y z nm body))) l = if l = R.1 7 0 + 1 then K else aRing R l := by
  show (if l = (rEnds v nm (rEnt R kd dy a b c p x y z nm body)).1 7 0 + 1 then K else (rEnds v nm (rEnt R kd dy a b c p x y z nm body)).2.1 l) = _
  rw [ends_7, rEnds_r, rEnt_o (by omega)]; rfl
theorem ring_lot2 {R : AR} {kd dy a b c p x y z d pa pb v : Nat} {nm : List Nat} {body : List Int} {sh : Nat → Int} {ih : Nat → Bool} {K K2 : List PT} (l : Nat) : aRing (rLots d pa pb sh ih [K, K2] (rEnds v nm (rEnt R kd dy a b c p x y z nm body))) l = if l = R.1 7 0 + 2 then K2 else if l = R.1 7 0 + 1 then K else aRing R l := by
  show (if l = (rLotB (rEnds v nm (rEnt R kd dy a b c p x y z nm body)) d pa pb K sh ih).1 7 0 + 1 then K2 else if l = (rEnds v nm (rEnt R kd dy a b c p x y z nm body)).1 7 0 + 1 then K else (rEnds v nm (rEnt R kd dy a b c p x y z nm body)).2.1 l) = _
  rw [rLotB_7, ends_7, rEnds_r, rEnt_o (by omega)]; rfl
theorem fixed.spt {T : CS} (h : fixed qs T) {i z cap : Nat} (hi : i < 30) (hz : z < 30) (h1 : t0_tag i = 2) (h2 : (t0_ref i)[0]? = some z) (h3 : t0_tag z = 11) (h4 : t0_len z = cap) (h5 : cap ≤ 100000) (hn : ¬ (i = 23 ∨ i = 24 ∨ i = 25 ∨ i = 28)) : spt T (qa qs i) (qa qs z) cap := ⟨h.tag hi h1, h.ref hi h2 hn, h.tag hz h3, h.len hz h4, h5⟩
theorem fixed.jo {T : CS} (h : fixed qs T) : joAt T (qa qs 12) (qa qs 13) (qa qs 14) (qa qs 15) (qa qs 16) (qa qs 17) (qa qs 18) (qa qs 19) (qa qs 20) (qa qs 21) :=
  ⟨h.tag (by omega) rfl, h.ref (i := 12) (j := 0) (by omega) rfl (by omega), h.ref (i := 12) (j := 1) (by omega) rfl (by omega), h.ref (i := 12) (j := 2) (by omega) rfl (by omega), h.ref (i := 12) (j := 3) (by omega) rfl (by omega), h.ref (i := 12) (j := 4) (by omega) rfl (by omega), h.spt (by omega) (by omega) rfl rfl rfl rfl (by omega) (by omega), h.spt (by omega) (by omega) rfl rfl rfl rfl (by omega) (by omega), ⟨h.tag (by omega) rfl, h.len (by omega) rfl⟩, h.spt (by omega) (by omega) rfl rfl rfl rfl (by omega) (by omega), h.spt (by omega) (by omega) rfl rfl rfl rfl (by omega) (by omega)⟩
theorem qa_ne (hq : qs.Nodup) (hl : qs.length = 30) {i j : Nat} (hi : i < 30) (hj : j < 30) (h : i ≠ j) : qa qs i ≠ qa qs j := fun f => h (qa_inj hq hl hi hj f)
theorem qa_out (hl : qs.length = 30) {a i : Nat} (ha : a ∉ qs) (hi : i < 30) : a ≠ qa qs i := fun f => ha (by rw [f]; exact qa_mem hl hi)
theorem qa_nd5 (hq : qs.Nodup) (hl : qs.length = 30) {a i j k m : Nat} (ha : a ∉ qs) (hi : i < 30) (hj : j < 30) (hk : k < 30) (hm : m < 30) (h1 : i ≠ j) (h2 : i ≠ k) (h3 : i ≠ m) (h4 : j ≠ k) (h5 : j ≠ m) (h6 : k ≠ m) : [a, qa qs i, qa qs j, qa qs k, qa qs m].Nodup := by
  have n := fun {i j : Nat} (hi : i < 30) (hj : j < 30) (h : i ≠ j) => qa_ne hq hl hi hj h
  simp only [List.nodup_cons, List.mem_cons, List.not_mem_nil, or_false, not_or, List.nodup_nil, and_true, not_false_eq_true]
  exact ⟨⟨qa_out hl ha hi, qa_out hl ha hj, qa_out hl ha hk, qa_out hl ha hm⟩, ⟨n hi hj h1, n hi hk h2, n hi hm h3⟩, ⟨n hj hk h4, n hj hm h5⟩, n hk hm h6⟩
theorem qa_nd6 (hq : qs.Nodup) (hl : qs.length = 30) {a i j k m r : Nat} (ha : a ∉ qs) (hi : i < 30) (hj : j < 30) (hk : k < 30) (hm : m < 30) (hr : r < 30) (h1 : i ≠ j) (h2 : i ≠ k) (h3 : i ≠ m) (h4 : j ≠ k) (h5 : j ≠ m) (h6 : k ≠ m) (h7 : i ≠ r) (h8 : j ≠ r) (h9 : k ≠ r) (h10 : m ≠ r) : [a, qa qs i, qa qs j, qa qs k, qa qs m, qa qs r].Nodup := by
  have n := fun {i j : Nat} (hi : i < 30) (hj : j < 30) (h : i ≠ j) => qa_ne hq hl hi hj h
  simp only [List.nodup_cons, List.mem_cons, List.not_mem_nil, or_false, not_or, List.nodup_nil, and_true, not_false_eq_true]
  exact ⟨⟨qa_out hl ha hi, qa_out hl ha hj, qa_out hl ha hk, qa_out hl ha hm, qa_out hl ha hr⟩, ⟨n hi hj h1, n hi hk h2, n hi hm h3, n hi hr h7⟩, ⟨n hj hk h4, n hj hm h5, n hj hr h8⟩, ⟨n hk hm h6, n hk hr h9⟩, n hm hr h10⟩
theorem op_merge (hq : qs.Nodup) (hl : qs.length = 30) {j c n : Nat} {T : CS} {S : MS} {f : Nat → Int64} {a1 a2 a3 a4 a5 a6 : Int} (hj : j < 512) (h : LInv qs j c n T S) (h1 : inR a1) (h2 : inR a2) (h3 : inR a3) (h4 : inR a4) (h5 : inR a5) (h6 : inR a6) : st_merge (LInv qs (j + 1)) (qa qs 0) f c n a1 a2 a3 a4 a5 a6 T S := by
  obtain ⟨hc, ad, R, hS, hw, hz⟩ := h
  have B := hS.1
  have M := hS.2.1
  have F := hS.2.2.2.1
  have w := F.r
  have W := w.1
  have t0 : tg T (qa qs 0) = 1 := B.1.tag (by omega) rfl
  have r4 : fo T (qa qs 0) 4 = some (qa qs 22) := B.1.ref (i := 0) (j := 4) (z := 22) (by omega) rfl (by omega)
  have r5 : fo T (qa qs 0) 5 = some (qa qs 28) := B.1.ref (i := 0) (j := 5) (z := 28) (by omega) rfl (by omega)
  have t22 : tg T (qa qs 22) = 5 := B.1.tag (by omega) rfl
  have t28 : tg T (qa qs 28) = 6 := B.1.tag (by omega) rfl
  have inv : ∀ {T1 : CS} {S1 : MS}, Tx (scr qs) T T1 → n20 T T1 → mfr S S1 → LInv qs (j + 1) (c + 1000) (n + 14000) T1 S1 := fun g g2 m => inv_q hq hl hS hc hw hz g g2 m
  have er : ∀ v : Int, LInv qs (j + 1) (c + 1000) (n + 14000) T (ms_i S 0 v) := fun v => inv (Tx_refl _ _) (n20_refl _) (mfr_i0 S v)
  have hg := hS.2.2.1
  have he := hS.2.2.2.2.1
  have hb := hS.2.2.2.2.2.1
  have h7 := hS.2.2.2.2.2.2
  have sc : ∀ {U V : CS}, Tx (fun _ => False) U V → Tx (scr qs) U V := fun g => Tx_mono g (fun a f => f.elim)
  have t9 : tg T (ad 9 0) = 11 := B.lgA.2.2.2.1
  unfold st_merge hx_merge
  refine ⟨1000, 14000, ⟨by omega, by omega⟩, t0, ?_⟩
  have E1 : ∀ {f1 : Nat → Int64} {T1 : CS}, T1 = T → ¬ (1 ≤ R.1 7 0 ∧ R.1 2 0 = 0) → wp_Mo_merge (fun b S1 => inR b ∧ S1.1 0 = 1 ∧ ((1 : Int) = 0 → f1 0 = lI b) ∧ LInv qs (j + 1) (c + 1000) (n + 14000) T1 S1) a1 a2 a3 S := fun eT k => by
    subst eT
    exact sp_Mo_merge M hg F h1 h2 h3 (fun _ => fin_e (by decide) (ms_i0 S 1) (er 1)) (fun q1 q2 => absurd ⟨q1, q2⟩ k) (fun q1 q2 => absurd ⟨q1, q2⟩ k) (fun q1 q2 => absurd ⟨q1, q2⟩ k) (fun q1 q2 => absurd ⟨q1, q2⟩ k)
  have E2 : ∀ {f1 : Nat → Int64} {T1 : CS}, T1 = T → 1 ≤ R.1 7 0 → R.1 2 0 = 0 → ¬ ((1 ≤ a1 ∧ a1 ≤ (R.1 7 0 : Int)) ∧ (1 ≤ a2 ∧ a2 ≤ (R.1 7 0 : Int))) → wp_Mo_merge (fun b S1 => inR b ∧ S1.1 0 = 2 ∧ ((2 : Int) = 0 → f1 0 = lI b) ∧ LInv qs (j + 1) (c + 1000) (n + 14000) T1 S1) a1 a2 a3 S := fun eT u1 u2 k => by
    subst eT
    exact sp_Mo_merge M hg F h1 h2 h3 (fun q => absurd ⟨u1, u2⟩ q) (fun _ _ _ => fin_e (by decide) (ms_i0 S 2) (er 2)) (fun _ _ q q' => absurd ⟨q, q'⟩ k) (fun _ _ l m e e' l1 l2 m1 m2 => absurd ⟨⟨by omega, by omega⟩, ⟨by omega, by omega⟩⟩ k) (fun _ _ l m e e' l1 l2 m1 m2 => absurd ⟨⟨by omega, by omega⟩, ⟨by omega, by omega⟩⟩ k)
  have E3 : ∀ {f1 : Nat → Int64} {T1 : CS}, T1 = T → 1 ≤ R.1 7 0 → R.1 2 0 = 0 → (1 ≤ a1 ∧ a1 ≤ (R.1 7 0 : Int)) → (1 ≤ a2 ∧ a2 ≤ (R.1 7 0 : Int)) → ¬ (0 ≤ a3 ∧ a3 ≤ 30000) → wp_Mo_merge (fun b S1 => inR b ∧ S1.1 0 = 3 ∧ ((3 : Int) = 0 → f1 0 = lI b) ∧ LInv qs (j + 1) (c + 1000) (n + 14000) T1 S1) a1 a2 a3 S := fun eT u1 u2 k k' k3 => by
    subst eT
    exact sp_Mo_merge M hg F h1 h2 h3 (fun q => absurd ⟨u1, u2⟩ q) (fun _ _ q => absurd ⟨k, k'⟩ q) (fun _ _ _ _ _ => fin_e (by decide) (ms_i0 S 3) (er 3)) (fun _ _ _ _ _ _ _ _ _ _ q => absurd q k3) (fun _ _ _ _ _ _ _ _ _ _ q => absurd q k3)
  unfold wp_BLB_merge
  refine ⟨1, 6, 999, 13994, ⟨by omega, by omega⟩, t0, sp_B_up B w ⟨by omega, by omega⟩ (fun u1 u2 => ⟨1, 6, 998, 13988, ⟨by omega, by omega⟩, t0, sp_B_ckLot B w h1 ⟨by omega, by omega⟩ (fun l e l1 l2 => ⟨1, 6, 997, 13982, ⟨by omega, by omega⟩, t0, sp_B_ckLot B w h2 ⟨by omega, by omega⟩ (fun m e' m1 m2 => ⟨1, 6, 996, 13976, ⟨by omega, by omega⟩, sp_B_ckDay h3 ⟨by omega, by omega⟩ (fun kd => ⟨by omega, 995, 13974, ⟨by omega, by omega⟩, fun q25 T26 q0 y26 => ?_⟩) (fun k => Or.inr (Or.inr ⟨rfl, inR_lit3, E3 rfl u1 u2 (by omega) (by omega) k⟩))⟩) (fun k => Or.inr (Or.inl ⟨rfl, inR_lit2, E2 rfl u1 u2 (fun q => k q.2)⟩))⟩) (fun k => Or.inr (Or.inl ⟨rfl, inR_lit2, E2 rfl u1 u2 (fun q => k q.1)⟩))⟩) (fun k => Or.inl ⟨rfl, inR_lit1, E1 rfl k⟩)⟩
  subst e
  subst e'
  have RF : ∀ {v : Int} {T1 : CS}, Tx (scr qs) T T1 → n20 T T1 → mgRf R l m a3 v → inR v ∧ inR 0 ∧ wp_Mo_merge (fun b S1 => inR b ∧ S1.1 0 = 0 ∧ ((0 : Int) = 0 → vp_updL f 0 (lI v) 0 = lI b) ∧ LInv qs (j + 1) (c + 1000) (n + 14000) T1 S1) (l : Int) (m : Int) a3 S := fun g1 g2 rf => ⟨Rf_in rf, inR_lit0, sp_Mo_merge M hg F h1 h2 h3 (fun q => absurd ⟨u1, u2⟩ q) (fun _ _ q => absurd ⟨⟨by omega, by omega⟩, ⟨by omega, by omega⟩⟩ q) (fun _ _ _ _ q => absurd kd q) (fun _ _ l' m' z z' _ _ _ _ _ v' S' g' rf' => by
      have z : l' = l := by omega
      have z' : m' = m := by omega
      subst z; subst z'
      exact fin_r (Rf_in rf) (Rf_uniq rf' rf) (by rw [g'.1 0 (by omega)]; exact ms_i0 S 0) (inv g1 g2 (mfr_trans (mfr_i0 S 0) g'.fr))) (fun _ _ l' m' z z' _ _ _ _ _ r1 r2 r3 r4 => by
      have z : l' = l := by omega
      have z' : m' = m := by omega
      subst z; subst z'
      exact absurd ⟨r1, r2, r3, r4⟩ (Rf_ne rf))⟩
  refine ⟨by rw [y26]; exact new_tg _ _ _ _, ⟨by omega, by rw [y26, new_ln]; omega⟩, fun T29 y29 => ⟨by rw [y29]; show tg T26 q25 = 11; rw [y26]; exact new_tg _ _ _ _, ⟨by omega, by rw [y29]; show (1 : Int) < (ln T26 q25 : Int); rw [y26, new_ln]; omega⟩, fun T30 y30 => ?_⟩⟩
  obtain ⟨x30, n30, s1, s2, s3, s4⟩ := arr2 q0 y26 y29 y30
  have B30 := B.tx hq hl (sc x30)
  have q25q : q25 ∉ qs := not_qs hl B.1 (Or.inl q0)
  have mem2 : ∀ x, x ∈ [l, m] ↔ x = l ∨ x = m := fun x => by simp
  have ns30 : nsAt T30 q25 [l, m] := ⟨s1, s2, by show 2 ≤ 300; omega, fun x hx => by rcases (mem2 x).mp hx with q | q <;> omega, fun i hi => by
    have : i < 2 := hi
    rcases (show i = 0 ∨ i = 1 by omega) with q | q <;> subst q
    · exact s3
    · exact s4⟩
  refine ⟨B30.1.tag (by omega) rfl, qa qs 22, B30.1.ref (i := 0) (j := 4) (z := 22) (by omega) rfl (by omega), B30.1.tag (by omega) rfl, ?_⟩
  refine sp_B_objection B30 w F.nl ns30 (fun x hx => by rcases (mem2 x).mp hx with q | q <;> omega) h3 (fun k => ⟨by unfold inR; omega, fun q => absurd q (by decide), fun _ => RF (sc x30) n30 (Or.inl ⟨rfl, ?_⟩)⟩) (fun k1 k => ⟨by unfold inR; omega, fun q => absurd q (by decide), fun _ => RF (sc x30) n30 (Or.inr (Or.inl ⟨rfl, ?_, ?_⟩))⟩) (fun kb kl => ⟨inR_lit0, fun _ => ?_, fun q => absurd rfl q⟩)
  · obtain ⟨x, hx, hb⟩ := k
    rcases (mem2 x).mp hx with q | q
    · rw [q] at hb; exact Or.inl hb
    · rw [q] at hb; exact Or.inr hb
  · rintro (q | q)
    · exact q (k1 l ((mem2 l).mpr (Or.inl rfl)))
    · exact q (k1 m ((mem2 m).mpr (Or.inr rfl)))
  · obtain ⟨x, hx, hb⟩ := k
    rcases (mem2 x).mp hx with q | q
    · rw [q] at hb; exact Or.inl hb
    · rw [q] at hb; exact Or.inr hb
  have kbl := kb l ((mem2 l).mpr (Or.inl rfl))
  have kbm := kb m ((mem2 m).mpr (Or.inr rfl))
  have ng : ¬ (¬ aB R l a3 (R.1 15 0) ∨ ¬ aB R m a3 (R.1 15 0)) := by
    rintro (q | q)
    · exact q kbl
    · exact q kbm
  have nlt : ¬ (aLate R l a3 ∨ aLate R m a3) := by
    rintro (q | q)
    · exact kl ⟨l, (mem2 l).mpr (Or.inl rfl), q⟩
    · exact kl ⟨m, (mem2 m).mpr (Or.inr rfl), q⟩
  have la := B30.lta l1 l2
  have lb := B30.lta m1 m2
  refine ⟨h1, h2, fun keq => RF (sc x30) n30 (Or.inr (Or.inr (Or.inl ⟨rfl, ng, nlt, Or.inl (by omega)⟩))), fun kne => ⟨B30.1.tag (by omega) rfl, qa qs 12, B30.1.ref (i := 0) (j := 3) (z := 12) (by omega) rfl (by omega), B30.1.tag (by omega) rfl, qa qs 22, B30.1.ref (i := 0) (j := 4) (z := 22) (by omega) rfl (by omega), B30.1.tag (by omega) rfl, sp_B_lot B30 l1 l2 ⟨B30.lt9 l1 l2, ad 4 l, la.1, B30.1.tag (by omega) rfl, qa qs 22, B30.1.ref (i := 0) (j := 4) (z := 22) (by omega) rfl (by omega), B30.1.tag (by omega) rfl, sp_B_lot B30 m1 m2 ⟨B30.lt9 m1 m2, ad 4 m, lb.1, B30.1.tag (by omega) rfl, ?_⟩⟩⟩⟩
  have nlm : ¬ l = m := by omega
  have rA := w.rg l1 l2
  have rB := w.rg m1 m2
  have hI := F.x l m a3 _ l1 l2 m1 m2 nlm kbl kbm
  have scj : ∀ a, (pab (qa qs 13) (qa qs 14) a ∨ pab (qa qs 15) (qa qs 16) a ∨ a = qa qs 17 ∨ pab (qa qs 18) (qa qs 19) a ∨ pab (qa qs 20) (qa qs 21) a) → scr qs a := by
    rintro a ((q | q) | (q | q) | q | (q | q) | (q | q))
    · exact ⟨13, by omega, q⟩
    · exact ⟨14, by omega, q⟩
    · exact ⟨15, by omega, q⟩
    · exact ⟨16, by omega, q⟩
    · exact ⟨17, by omega, q⟩
    · exact ⟨18, by omega, q⟩
    · exact ⟨19, by omega, q⟩
    · exact ⟨20, by omega, q⟩
    · exact ⟨21, by omega, q⟩
  have lq := la.2.2.2.2.2.2.1
  have mq := lb.2.2.2.2.2.2.1
  refine sp_B_join B30.1.jo la.2.1 lb.2.1 (qa_nd5 hq hl lq.1 (by omega) (by omega) (by omega) (by omega) (by omega) (by omega) (by omega) (by omega) (by omega) (by omega)) (qa_nd5 hq hl mq.1 (by omega) (by omega) (by omega) (by omega) (by omega) (by omega) (by omega) (by omega) (by omega) (by omega)) (qa_nd6 hq hl lq.2.1 (by omega) (by omega) (by omega) (by omega) (by omega) (by omega) (by omega) (by omega) (by omega) (by omega) (by omega) (by omega) (by omega) (by omega) (by omega)) (qa_nd6 hq hl mq.2.1 (by omega) (by omega) (by omega) (by omega) (by omega) (by omega) (by omega) (by omega) (by omega) (by omega) (by omega) (by omega) (by omega) (by omega) (by omega)) rA rB hI (fun T43 g43 ko => ⟨inR_lit0, fun _ => RF (Tx_trans (sc x30) (Tx_mono g43.tx scj)) (n20_trans n30 (n20_tw g43)) (Or.inr (Or.inr (Or.inl ⟨rfl, ng, nlt, Or.inr (Or.inl ko)⟩))), fun q => absurd rfl q⟩) (fun T43 K sti mm s g43 ko jk1 jk2 jk3 jk4 jk5 pK kK => ⟨inR_lit1, fun q => absurd q (by decide), fun _ => ?_⟩)
  have hO : mgO (aRing R l) (aRing R m) (mg_out (ig_refine (aRing R l) (aRing R m)) (ig_refine (aRing R m) (aRing R l)) sti s (mm + (s + 1) * (ig_refine (aRing R m) (aRing R l)).length)) := ⟨sti, mm, s, jk1, jk2, jk3, jk4, jk5, rfl⟩
  generalize hOe : mg_out (ig_refine (aRing R l) (aRing R m)) (ig_refine (aRing R m) (aRing R l)) sti s (mm + (s + 1) * (ig_refine (aRing R m) (aRing R l)).length) = O at hO kK
  obtain ⟨o1, o2, o3, o4⟩ := mgO_geo rA rB hI ko hO
  have oW : ∀ z, 0 ≤ gx_wn (rgn O) z := fun z => by rw [o2]; have := rA.2.2.2 z; have := rB.2.2.2 z; omega
  have x43 : Tx (scr qs) T T43 := Tx_trans (sc x30) (Tx_mono g43.tx scj)
  have n43 : n20 T T43 := n20_trans n30 (n20_tw g43)
  have B43 := B.tx hq hl x43
  refine ⟨B43.1.tag (by omega) rfl, qa qs 22, B43.1.ref (i := 0) (j := 4) (z := 22) (by omega) rfl (by omega), B43.1.tag (by omega) rfl, ?_⟩
  have sce : ∀ a, (a = qa qs 26 ∨ a = qa qs 27) → scr qs a := by
    rintro a (q | q)
    · exact ⟨26, by omega, q⟩
    · exact ⟨27, by omega, q⟩
  refine sw_B_haveEqualShares hq hl B43 w F.nl F.t F.sb l1 l2 m1 m2 h3 (fun T46 g46 ks => ⟨inR_lit1, fun _ => ⟨by omega, 994, 13973, ⟨by omega, by omega⟩, fun q48 T49 q480 y49 => ?_⟩, fun q => absurd q (by decide)⟩) (fun T46 g46 ks => ⟨inR_lit0, fun q => absurd rfl q, fun _ => RF (Tx_trans x43 (Tx_mono g46.tx sce)) (n20_trans n43 (n20_tw g46)) (Or.inr (Or.inr (Or.inl ⟨rfl, ng, nlt, Or.inr (Or.inr ks)⟩)))⟩)
  have good : ¬ mgBad R l m a3 := by
    rintro (r | r | r)
    · exact nlm r
    · exact r ko
    · exact r ks
  have x46 : Tx (scr qs) T T46 := Tx_trans x43 (Tx_mono g46.tx sce)
  have n46 : n20 T T46 := n20_trans n43 (n20_tw g46)
  have pK46 : ptsAt T46 (qa qs 20) (qa qs 21) K 240 := pK.tw g46 (fun q => q.elim (qa_ne hq hl (by omega) (by omega) (by omega)) (qa_ne hq hl (by omega) (by omega) (by omega))) (fun q => q.elim (qa_ne hq hl (by omega) (by omega) (by omega)) (qa_ne hq hl (by omega) (by omega) (by omega)))
  refine ⟨by rw [y49]; exact new_tg _ _ _ _, ⟨by omega, by rw [y49, new_ln]; omega⟩, fun T52 y52 => ⟨by omega, 993, 13972, ⟨by omega, by omega⟩, fun q53 T54 q530 y54 => ?_⟩⟩
  obtain ⟨x52', n52', v1, v2, v3⟩ := arr1 q480 y49 y52
  have x54' : Tx (fun _ => False) T52 T54 := by rw [y54]; exact Tx_new _ q530
  have x52 : Tx (scr qs) T T52 := Tx_trans x46 (sc x52')
  have B54 := B.tx hq hl (Tx_trans x52 (sc x54'))
  have pK54 := (pK46.tx x52' (fun q => q) (fun q => q)).tx x54' (fun q => q) (fun q => q)
  refine ⟨B54.1.tag (by omega) rfl, qa qs 12, B54.1.ref (i := 0) (j := 3) (z := 12) (by omega) rfl (by omega), B54.1.tag (by omega) rfl, qa qs 20, B54.1.jo.2.2.2.2.2.1, by rw [y54]; exact new_tg _ _ _ _, ⟨by omega, by rw [y54, new_ln]; omega⟩, pK54.1, fun T59 y59 => ?_⟩
  have x59' : Tx (fun _ => False) T52 T59 := Tx_fresho x54' q530 y59
  have x59 : Tx (scr qs) T T59 := Tx_trans x52 (sc x59')
  have n54' : n20 T52 T54 := by rw [y54]; exact n20_new (by decide)
  have n59' : n20 T54 T59 := by rw [y59]; exact n20_tg rfl
  have n59 : n20 T T59 := n20_trans n46 (n20_trans n52' (n20_trans n54' n59'))
  have B59 := B.tx hq hl x59
  have pK59 := (pK46.tx x52' (fun q => q) (fun q => q)).tx x59' (fun q => q) (fun q => q)
  have t53 : tg T59 q53 = 14 := by rw [y59, y54]; exact new_tg T52 q53 14 1
  have l53 : ln T59 q53 = 1 := by rw [y59, y54]; exact new_ln T52 q53 14 1
  have f53 : fo T59 q53 0 = some (qa qs 20) := by rw [y59, cs_o_fo, if_pos ⟨rfl, rfl⟩]
  have w48 := x59' q48 (by omega)
  have rb : ringsB T59 q53 [K] := ⟨t53, l53, fun i hi => ⟨qa qs 20, qa qs 21, 240, by
    have : i = 0 := by have : i < 1 := hi; omega
    subst this; exact f53, by
    have : i = 0 := by have : i < 1 := hi; omega
    subst this; exact pK59⟩⟩
  refine ⟨t53, B59.1.tag (by omega) rfl, ?_⟩
  rw [l53]
  refine sp_B_isFull (ml := 1) (me := 0) (kd := 2) (n := 0) B59 w (by rw [w48.1]; exact v1) (by rw [w48.2.1, v2]; rfl) ⟨by omega, by omega, by rw [w48.2.1]; omega⟩ (fun ku => ⟨inR_lit1, fun _ => RF x59 n59 (Or.inr (Or.inr (Or.inr ⟨rfl, ng, nlt, good, Or.inr ku⟩))), fun q => absurd q (by decide)⟩) (fun ku => ⟨inR_lit0, fun q => absurd rfl q, fun _ => ?_⟩)
  refine sp_B_tooMany rb (by show 1 ≤ 2; omega) (fun kt => ⟨inR_lit1, fun q => absurd q (by decide), fun _ => RF x59 n59 (Or.inr (Or.inr (Or.inr ⟨rfl, ng, nlt, good, Or.inl ⟨O, hO, ?_⟩⟩)))⟩) (fun kt => ⟨inR_lit0, fun _ => ⟨992, 13966, ⟨by omega, by omega⟩, fun q64 T65 q640 y65 => ?_⟩, fun q => absurd rfl q⟩)
  · obtain ⟨K', q1, q2⟩ := kt
    rw [List.mem_singleton.mp q1] at q2
    rw [kK.1.1]; exact q2
  have K60 : K.length ≤ 60 := kt K (List.mem_singleton.mpr rfl)
  obtain ⟨rgK, wnK⟩ := kept_rg o3 o1 oW o4 kK K60
  have ku' := ku
  unfold aMuch at ku'
  have nmu : ¬ mgMuch R l m := by
    rintro (⟨O', q1, q2⟩ | q)
    · rw [mgO_uniq rA rB ko q1 hO, kK.1.1] at q2; omega
    · exact ku q
  have r6 : rsz 2 0 = 5 := rfl
  have r6' : rsz 2 (aRow R).length = 5 := rfl
  have bo := dbody_ok (kd := 2) (dy := a3.toNat) (a := l) (b := m) (c := 0) (p := 0) (row := aRow R) (en := R.1 15 0 + 1) (by omega) (by omega) (by omega) (by omega) (by omega) (by omega) (by omega) w.2.1
  have na9 : q25 ≠ ad 9 0 := fun q => by rw [q] at q0; omega
  have q48T : tg T q48 = 0 := Classical.byContradiction fun q => q (by rw [← (x46 q48 q).1]; exact q480)
  have nsc25 : ¬ scr qs q25 := fun q => q25q (scr_mem hl q)
  have w25 : tg T59 q25 = 11 ∧ ln T59 q25 = 2 ∧ fi T59 q25 = fi T30 q25 := by
    have z1 := g43.1 q25
    have z2 := g46.1 q25
    have z3 := x52' q25 (by rw [z2, z1]; omega)
    have z4 := x59' q25 (by rw [z3.1, z2, z1]; omega)
    refine ⟨by rw [z4.1, z3.1, z2, z1]; exact s1, by rw [z4.2.1, z3.2.1, g46.2.1, g43.2.1]; exact s2, ?_⟩
    rw [z4.2.2.2 (fun q => q), z3.2.2.2 (fun q => q), g46.2.2.2 q25 (fun q => nsc25 (sce _ q)), g43.2.2.2 q25 (fun q => nsc25 (scj _ q))]
  unfold wp_BDe_init3
  have ed : ((a3.toNat : Nat) : Int) = a3 := by omega
  have nd := sp_B_newdeed (post := fun mc_74 ms_75 r_71 T_70 => tg T_70 (qa qs 0) = 1 ∧ ∃ q_76 : Nat, fo T_70 (qa qs 0) 4 = some q_76 ∧ (∃ mc_79 ms_80 mc_81 ms_82 : Nat, (mc_74 = mc_79 + mc_81 ∧ ms_75 = ms_80 + ms_82) ∧ tg T_70 q_76 = 5 ∧ wp_BRg_replaceLots (fun r T1 => inR r ∧ inR 0 ∧ wp_Mo_merge (fun b S1 => inR b ∧ S1.1 0 = 0 ∧ ((0 : Int) = 0 → vp_updL f 0 (lI r) 0 = lI b) ∧ LInv qs (j + 1) (c + 1000) (n + 14000) T1 S1) (l : Int) (m : Int) a3 S) mc_79 ms_80 q_76 q53 T_70)) (kd := 2) (dy := a3.toNat) (a := l) (b := 0) (c := 0) (p := 0) (x := 0) (y := 0) (z := 0) (nm := [l, m]) (tl := dtext 2 l m 0 0 (aRow R)) (body := dbody 2 a3.toNat (R.1 15 0 + 1) l m 0 0 (aRow R)) (na := q25) (ta := q48) (mc := 992) (ms := 13966) hq hl B59 (he.n n59) ⟨w25.1, w25.2.1, fun i hi => ?_, q25q, na9⟩ ⟨by rw [w48.1]; exact v1, by rw [w48.2.1, v2]; rfl, fun i hi => ?_, fun q => by rw [q] at q48T; omega⟩ rfl (by omega) (by rw [bo.2.1, r6']; omega) bo.1.2.1 (by show 1 ≤ 36; omega) (by omega) (by omega) q640 y65 (fun T' ad' k1 k2 k3 k4 k5 => ?_)
  · rw [show ((2 : Nat) : Int) = 2 from rfl, ed, show ((0 : Nat) : Int) = 0 from rfl] at nd
    exact nd
  · have : i < 2 := hi
    rw [w25.2.2]
    rcases (show i = 0 ∨ i = 1 by omega) with q | q <;> subst q
    · exact s3
    · exact s4
  · have : i = 0 := by have : i < 1 := hi; omega
    subst this
    rw [w48.2.2.2 (fun q => q), v3]; rfl
  have kB : BK qs ad' T' (rEnt R 2 a3.toNat l m 0 0 (R.1 7 0 + 1) (R.1 25 0) (R.1 30 0 + (wrec (dbody 2 a3.toNat (R.1 15 0 + 1) l m 0 0 (aRow R))).length) [l, m] (dbody 2 a3.toNat (R.1 15 0 + 1) l m 0 0 (aRow R))) := BK_b k1 (by decide)
  have hnm : ∀ x ∈ [l, m], 1 ≤ x ∧ x ≤ R.1 7 0 := fun x hx => by rcases (mem2 x).mp hx with q | q <;> omega
  have wE := WR_ent (R := R) (kd := 2) (dy := a3.toNat) (a := l) (b := m) (c := 0) (p := 0) (x := R.1 7 0 + 1) (y := R.1 25 0) (z := R.1 30 0 + (wrec (dbody 2 a3.toNat (R.1 15 0 + 1) l m 0 0 (aRow R))).length) (nm := [l, m]) (body := dbody 2 a3.toNat (R.1 15 0 + 1) l m 0 0 (aRow R)) w (by omega) (by omega) (by omega) (by omega) (by omega) (by omega) (by omega) (fun q => by omega) (by rw [bo.2.1, r6']; omega) bo.1.2.1 bo.1.1.2
  have wnE := WNl_ent (R := R) (kd := 2) (dy := a3.toNat) (a := l) (b := m) (c := 0) (p := 0) (x := R.1 7 0 + 1) (y := R.1 25 0) (z := R.1 30 0 + (wrec (dbody 2 a3.toNat (R.1 15 0 + 1) l m 0 0 (aRow R))).length) (nm := [l, m]) (body := dbody 2 a3.toNat (R.1 15 0 + 1) l m 0 0 (aRow R)) F.nl (by show 2 ≤ 300; omega) hnm (fun q => by omega) (fun _ => rfl)
  have wtE := WT_ent (R := R) (kd := 2) (dy := a3.toNat) (a := l) (b := m) (c := 0) (p := 0) (x := R.1 7 0 + 1) (y := R.1 25 0) (z := R.1 30 0 + (wrec (dbody 2 a3.toNat (R.1 15 0 + 1) l m 0 0 (aRow R))).length) (nm := [l, m]) (body := dbody 2 a3.toNat (R.1 15 0 + 1) l m 0 0 (aRow R)) F.t (by decide)
  have eIh : ∀ e x, aIh (rEnt R 2 a3.toNat l m 0 0 (R.1 7 0 + 1) (R.1 25 0) (R.1 30 0 + (wrec (dbody 2 a3.toNat (R.1 15 0 + 1) l m 0 0 (aRow R))).length) [l, m] (dbody 2 a3.toNat (R.1 15 0 + 1) l m 0 0 (aRow R))) e x = aIh R e x := fun _ _ => rfl
  obtain ⟨d1, d2, d3, d4, d5, d6, d7, d8, d9⟩ := rEnt_d (R := R) (kd := 2) (dy := a3.toNat) (a := l) (b := m) (c := 0) (p := 0) (x := R.1 7 0 + 1) (y := R.1 25 0) (z := R.1 30 0 + (wrec (dbody 2 a3.toNat (R.1 15 0 + 1) l m 0 0 (aRow R))).length) (nm := [l, m]) (body := dbody 2 a3.toNat (R.1 15 0 + 1) l m 0 0 (aRow R))
  have e15 : (rEnt R 2 a3.toNat l m 0 0 (R.1 7 0 + 1) (R.1 25 0) (R.1 30 0 + (wrec (dbody 2 a3.toNat (R.1 15 0 + 1) l m 0 0 (aRow R))).length) [l, m] (dbody 2 a3.toNat (R.1 15 0 + 1) l m 0 0 (aRow R))).1 15 0 = R.1 15 0 + 1 := rEnt_15
  have e25 : (rEnt R 2 a3.toNat l m 0 0 (R.1 7 0 + 1) (R.1 25 0) (R.1 30 0 + (wrec (dbody 2 a3.toNat (R.1 15 0 + 1) l m 0 0 (aRow R))).length) [l, m] (dbody 2 a3.toNat (R.1 15 0 + 1) l m 0 0 (aRow R))).1 25 0 = R.1 25 0 := rEnt_o (by omega)
  have e7 : (rEnt R 2 a3.toNat l m 0 0 (R.1 7 0 + 1) (R.1 25 0) (R.1 30 0 + (wrec (dbody 2 a3.toNat (R.1 15 0 + 1) l m 0 0 (aRow R))).length) [l, m] (dbody 2 a3.toNat (R.1 15 0 + 1) l m 0 0 (aRow R))).1 7 0 = R.1 7 0 := rEnt_o (by omega)
  have enm : aNm (rEnt R 2 a3.toNat l m 0 0 (R.1 7 0 + 1) (R.1 25 0) (R.1 30 0 + (wrec (dbody 2 a3.toNat (R.1 15 0 + 1) l m 0 0 (aRow R))).length) [l, m] (dbody 2 a3.toNat (R.1 15 0 + 1) l m 0 0 (aRow R))) (R.1 15 0 + 1) = [l, m] := updN_s _ _ _
  have esh : ∀ q, aShare (rEnt R 2 a3.toNat l m 0 0 (R.1 7 0 + 1) (R.1 25 0) (R.1 30 0 + (wrec (dbody 2 a3.toNat (R.1 15 0 + 1) l m 0 0 (aRow R))).length) [l, m] (dbody 2 a3.toNat (R.1 15 0 + 1) l m 0 0 (aRow R))) l q (a3.toNat : Int) (((R.1 15 0 + 1 : Nat) : Int) - 1) = aShare R l q (a3.toNat : Int) (R.1 15 0) := fun q => by
    rw [show ((R.1 15 0 + 1 : Nat) : Int) - 1 = (R.1 15 0 : Int) by omega]
    exact aShare_ent (Int.le_refl _)
  have eas : ∀ e, 1 ≤ e → e ≤ R.1 25 0 → (aS (rEnt R 2 a3.toNat l m 0 0 (R.1 7 0 + 1) (R.1 25 0) (R.1 30 0 + (wrec (dbody 2 a3.toNat (R.1 15 0 + 1) l m 0 0 (aRow R))).length) [l, m] (dbody 2 a3.toNat (R.1 15 0 + 1) l m 0 0 (aRow R))) e (a3.toNat : Int) (((R.1 15 0 + 1 : Nat) : Int) - 1) ↔ aS R e (a3.toNat : Int) (R.1 15 0)) := fun e e1 e2 => by
    rw [show ((R.1 15 0 + 1 : Nat) : Int) - 1 = (R.1 15 0 : Int) by omega]
    exact aS_ent w e1 e2
  have i9 : ad 9 0 ≠ qa qs 20 ∧ ad 9 0 ≠ qa qs 21 := by
    rcases B.lgA.2.2.2.2.2.2 with q | q
    · rw [q]; exact ⟨qa_ne hq hl (by omega) (by omega) (by omega), qa_ne hq hl (by omega) (by omega) (by omega)⟩
    · exact ⟨qa_out hl q (by omega), qa_out hl q (by omega)⟩
  have pK' : ptsAt T' (qa qs 20) (qa qs 21) K 240 := by
    have tn : tg T59 (qa qs 20) = 2 := pK59.1
    refine pK59.ty k2 ?_ ?_ ?_
    · rintro (q | q | q)
      · exact qa_ne hq hl (by omega) (by omega) (by omega) q
      · exact qa_ne hq hl (by omega) (by omega) (by omega) q
      · exact i9.1 q.symm
    · rintro (q | q | q)
      · exact qa_ne hq hl (by omega) (by omega) (by omega) q
      · exact qa_ne hq hl (by omega) (by omega) (by omega) q
      · exact i9.2 q.symm
    · rintro (q | q | q)
      · exact qa_ne hq hl (by omega) (by omega) (by omega) q
      · exact qa_ne hq hl (by omega) (by omega) (by omega) q
      · omega
  have q53n : q53 ∉ qs := not_qs hl B59.1 (Or.inr (by omega))
  have v53 := k2 q53 (by omega)
  have ra' : ringsAt T' q53 [K] := ⟨by rw [v53.1]; exact t53, by rw [v53.2.1]; exact l53, fun i hi => ⟨qa qs 20, qa qs 21, 240, by
    have : i = 0 := by have : i < 1 := hi; omega
    subst this
    rw [v53.2.2.1 (by
      rintro (q | q | q)
      · exact qa_out hl q53n (by omega) q
      · exact qa_out hl q53n (by omega) q
      · omega)]
    exact f53, by
    have : i = 0 := by have : i < 1 := hi; omega
    subst this; exact ⟨pK', K60⟩⟩⟩
  refine ⟨kB.1.tag (by omega) rfl, qa qs 22, kB.1.ref (i := 0) (j := 4) (z := 22) (by omega) rfl (by omega), 990, 6822, 0, 0, ⟨by omega, by omega⟩, kB.1.tag (by omega) rfl, sp_B_replace (a := min l m) (b := max l m) (ih := fun e => pB (∃ x, x ∈ [l, m] ∧ aS R e (a3.toNat : Int) (R.1 15 0) ∧ aIh R e x = true)) (ns := [l, m]) hq hl kB wE wnE wtE (he.n (n20_trans n59 k3)) (by rw [e15]; omega) (by rw [e15]; exact enm) (by simp) ra' (by show 1 ≤ 2; omega) (by rw [e7]; show R.1 7 0 + 1 ≤ 300; omega) (fun e e1 e2 => ?_) (by omega) (by omega) (fun T2 ad2 j1 j2 j3 j4 j5 j6 => ?_)⟩
  · rw [e25] at e2
    rw [e15, d2, pB_iff]
    constructor
    · rintro ⟨x, q1, q2, q3⟩; exact ⟨x, q1, (eas e e1 e2).mpr q2, q3⟩
    · rintro ⟨x, q1, q2, q3⟩; exact ⟨x, q1, (eas e e1 e2).mp q2, q3⟩
  rw [e15, d2] at j1
  rw [e7] at j5 j6 ⊢
  rw [e25] at j6
  have st : DStp R (mgR R l m a3 K (fun p => aShare (rEnt R 2 a3.toNat l m 0 0 (R.1 7 0 + 1) (R.1 25 0) (R.1 30 0 + (wrec (dbody 2 a3.toNat (R.1 15 0 + 1) l m 0 0 (aRow R))).length) [l, m] (dbody 2 a3.toNat (R.1 15 0 + 1) l m 0 0 (aRow R))) ([l, m].headD 0) p (a3.toNat : Int) (((R.1 15 0 + 1 : Nat) : Int) - 1)) (fun e => pB (∃ x, x ∈ [l, m] ∧ aS R e (a3.toNat : Int) (R.1 15 0) ∧ aIh R e x = true))) 2 a3.toNat [l, m] 1 (min l m) (max l m) 0 0 0 (dbody 2 a3.toNat (R.1 15 0 + 1) l m 0 0 (aRow R)) := dstp_lot1 rgK (fun x hx => (hnm x hx).2) (fun q hq => by
    show aShare _ l q _ _ = _
    rw [esh q]
    rcases (show min l m = l ∨ min l m = m by omega) with z | z <;> rw [z]
    rw [ed]; exact ks q hq) (fun e e1 e2 => pB_iff)
  have cn : DCnd R (mgR R l m a3 K (fun p => aShare (rEnt R 2 a3.toNat l m 0 0 (R.1 7 0 + 1) (R.1 25 0) (R.1 30 0 + (wrec (dbody 2 a3.toNat (R.1 15 0 + 1) l m 0 0 (aRow R))).length) [l, m] (dbody 2 a3.toNat (R.1 15 0 + 1) l m 0 0 (aRow R))) ([l, m].headD 0) p (a3.toNat : Int) (((R.1 15 0 + 1 : Nat) : Int) - 1)) (fun e => pB (∃ x, x ∈ [l, m] ∧ aS R e (a3.toNat : Int) (R.1 15 0) ∧ aIh R e x = true))) 2 a3.toNat [l, m] 1 (min l m) (max l m) 0 0 0 (dbody 2 a3.toNat (R.1 15 0 + 1) l m 0 0 (aRow R)) := by
    have hi : ∀ sh ih f, 16 ≤ f → f ≤ 24 → (mgR R l m a3 K sh ih).1 f (R.1 15 0 + 1) = (rEnt R 2 a3.toNat l m 0 0 (R.1 7 0 + 1) (R.1 25 0) (R.1 30 0 + (wrec (dbody 2 a3.toNat (R.1 15 0 + 1) l m 0 0 (aRow R))).length) [l, m] (dbody 2 a3.toNat (R.1 15 0 + 1) l m 0 0 (aRow R))).1 f (R.1 15 0 + 1) := by
      intro sh ih f f1 f2
      show (rLotB (rEnds (R.1 15 0 + 1) [l, m] _) _ _ _ _ _ _).1 f _ = _
      rw [rLotB_o _ _ _ _ _ _ _ _ ⟨by omega, by omega⟩, ends_n, if_neg (by omega)]
    refine ⟨⟨u1, u2, by omega, by omega, by omega, by omega, by omega, by rw [bo.2.1, r6']; omega, by omega⟩, ⟨by show 2 ≤ 300; omega, fun x hx => ?_⟩, ⟨⟨fun _ => Or.inr rfl, fun _ => by decide⟩, ⟨fun q => absurd rfl q, fun q => by omega⟩, ⟨fun q => absurd q (by decide), fun q => by omega⟩⟩, fun _ => ⟨by omega, fun _ => by omega, fun x => ?_, fun l' z q1 q2 => ?_, fun l' l'' z q1 q2 q3 q4 q5 => by omega⟩, ⟨fun q => by omega, fun _ => ?_, ?_, ?_, ?_, ?_⟩, fun q => by omega, fun q => by omega, fun q => by omega, bo.1, w.2.1⟩
    · rw [ed]
      rcases (mem2 x).mp hx with q | q
      · rw [q]; exact ⟨⟨l1, l2⟩, kbl, fun q => nlt (Or.inl q)⟩
      · rw [q]; exact ⟨⟨m1, m2⟩, kbm, fun q => nlt (Or.inr q)⟩
    · rw [mem2]; omega
    · rw [ring_lot1, if_pos (by omega), wnK z, o2 z, if_neg (by omega)]
      rcases (show (min l m = l ∧ max l m = m) ∨ (min l m = m ∧ max l m = l) by omega) with q | q <;> rw [q.1, q.2] <;> omega
    · rw [hi _ _ 18 (by omega) (by omega), hi _ _ 19 (by omega) (by omega), d3, d4]
    · rw [hi _ _ 18 (by omega) (by omega), d3]; omega
    · rw [hi _ _ 19 (by omega) (by omega), d4]; omega
    · rw [hi _ _ 20 (by omega) (by omega), d5]; omega
    · rw [hi _ _ 21 (by omega) (by omega), d6]; omega
  have F' := WF_step F st cn
  refine ⟨by unfold inR; omega, inR_lit0, sp_Mo_merge M hg F h1 h2 h3 (fun q => absurd ⟨u1, u2⟩ q) (fun _ _ q => absurd ⟨⟨by omega, by omega⟩, ⟨by omega, by omega⟩⟩ q) (fun _ _ _ _ q => absurd kd q) (fun _ _ l' m' z z' _ _ _ _ _ v' S' g' rf' => ?_) (fun _ _ l' m' z z' _ _ _ _ _ r1 r2 r3 r4 O' K' S' hO' hK' z0 mg md => ?_)⟩
  · have z : l' = l := by omega
    have z' : m' = m := by omega
    subst z; subst z'
    exact absurd ⟨ng, nlt, good, nmu⟩ (Rf_ne rf')
  · have z : l' = l := by omega
    have z' : m' = m := by omega
    subst z; subst z'
    have eO : O' = O := mgO_uniq rA rB ko hO' hO
    rw [eO] at hK'
    have eK : K' = K := ig_kept_uniq o3 (rgn_nodup o1) hK' kK
    rw [eK] at md
    refine fin_r (by unfold inR; omega) rfl z0 (inv_acc hc j1 (md _ _) mg F' (he.n (n20_trans n59 (n20_trans k3 j3))) (bt_step hb F st (fun l'' q1 q2 => ?_) (fun l'' q1 q2 => ?_)) ?_ ?_ (by rw [st.1.2.1]; omega))
    · rw [j5 l'' q2, k4 7 (by omega) (by omega) (by omega) (by omega)]
      have v := x59 (ad 7 l'') (by rw [B.t7 q1 q2]; omega)
      have v2 := k2 (ad 7 l'') (by rw [v.1, B.t7 q1 q2]; omega)
      rw [(j2 _ (by rw [v2.1, v.1, B.t7 q1 q2]; omega)).2.1, v2.2.1, v.2.1]
    · exact Nat.le_of_eq (j6 l'' q1 q2)
    · have g9 := lgrow_ln k5 (by rw [(x59 _ (by omega)).2.1]; exact h7) (by rw [bo.2.1, r6']; omega)
      rw [j4, (j2 _ (by have := kB.lgA.2.2.2.1; omega)).2.1]; exact g9
    · rw [st.1.2.2.2.1, bo.2.1, r6']
      show R.1 30 0 + 5 + (aRow R).length ≤ _
      omega
end OPJ
