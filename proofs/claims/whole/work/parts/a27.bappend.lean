/-! Log.append -/
section APP
variable {T T0 : CS} {lg : Nat}
def lgrow (T0 T : CS) (wa wa' tot : Nat) : Prop := (wa' = wa ∧ ln T wa' = ln T0 wa) ∨ (tg T0 wa' = 0 ∧ ln T wa' = 2 * ln T0 wa ∧ ln T0 wa < tot)
def stp (T0 : CS) (lg wa n : Nat) (w : Nat → Int) (ws : List Int) (k mc ms : Nat) (T : CS) : Prop := Ty (fun a => a = lg ∨ a = wa) (fun a => a = lg) T0 T ∧ n20 T0 T ∧ fi T lg 2 = fi T0 lg 2 ∧ ∃ wa', lgAt T lg wa' (n + k) (lgapp w n (ws.take k)) ∧ ((wa' = wa ∧ ln T wa' = ln T0 wa ∧ (ln T0 wa < n + ws.length → 1 ≤ mc ∧ 2 * ln T0 wa ≤ ms)) ∨ (tg T0 wa' = 0 ∧ ln T wa' = 2 * ln T0 wa ∧ ln T0 wa < n + ws.length))
theorem lgapp_take {w : Nat → Int} {n k : Nat} {ws : List Int} (hk : k < ws.length) {i : Nat} (hi : i < n + k + 1) : updN (lgapp w n (ws.take k)) (n + k) (ws.getD k 0) i = lgapp w n (ws.take (k + 1)) i := by
  have l1 : (ws.take k).length = k := by simp; omega
  have l2 : (ws.take (k + 1)).length = k + 1 := by simp; omega
  by_cases c : i = n + k
  · rw [c, updN_s]
    unfold lgapp
    rw [l2, if_pos ⟨by omega, by omega⟩, show n + k - n = k by omega]
    simp [hk]
  · rw [updN_n _ _ _ c]
    unfold lgapp
    rw [l1, l2]
    by_cases d : n ≤ i
    · rw [if_pos ⟨d, by omega⟩, if_pos ⟨d, by omega⟩]
      have e1 : i - n < k := by omega
      simp [e1, show i - n < k + 1 by omega]
    · rw [if_neg (fun q => d q.1), if_neg (fun q => d q.1)]
theorem stp_put {wa n k mc ms : Nat} {w : Nat → Int} {ws : List Int} (h : stp T0 lg wa n w ws k mc ms T) (l0 : n ≤ ln T0 wa ∧ 256 ≤ ln T0 wa) (h40 : ws.length ≤ 42) (htot : n + ws.length ≤ 12000) (hk : k < ws.length) :
    ∃ mc5 ms6 mc7 ms8 : Nat, (mc = mc5 + mc7 ∧ ms = ms6 + ms8) ∧ tg T lg = 6 ∧ ∀ post : CS → Prop, (∀ T', stp T0 lg wa n w ws (k + 1) mc7 ms8 T' → post T') → wp_BLg_put post mc5 ms6 lg (ws.getD k 0) T := by
  obtain ⟨fr, nn, f2, wa', la, hg⟩ := h
  have tl := la.1
  by_cases c : n + k = ln T wa'
  · refine ⟨mc, ms, 0, 0, ⟨by omega, by omega⟩, tl, fun post hp => ?_⟩
    have hold : wa' = wa ∧ ln T wa' = ln T0 wa ∧ (ln T0 wa < n + ws.length → 1 ≤ mc ∧ 2 * ln T0 wa ≤ ms) := by
      rcases hg with g | g
      · exact g
      · exfalso; omega
    obtain ⟨e1, e2, e3⟩ := hold
    have e4 := e3 (by omega)
    refine sp_B_put la (by omega) (fun _ => e4.1) (fun _ => by omega) (fun T' wb g1 g2 g3 g4 g5 => hp T' ⟨?_, n20_trans nn g2, g5.trans f2, wb, ⟨g3.1, g3.2.1, g3.2.2.1, g3.2.2.2.1, g3.2.2.2.2.1, g3.2.2.2.2.2.1, fun i hi => ?_⟩, ?_⟩)
    · rw [e1] at g1; exact Ty_trans fr g1
    · rw [g3.2.2.2.2.2.2 i hi]; exact lgapp_take hk hi
    · rcases g4 with ⟨q1, q2, q3⟩ | ⟨q1, q2, q3⟩
      · omega
      · refine Or.inr ⟨?_, by omega, by omega⟩
        exact Classical.byContradiction fun f => f (by have := (fr wb f).1; rw [this] at q1; exact q1)
  · refine ⟨0, 0, mc, ms, ⟨by omega, by omega⟩, tl, fun post hp => ?_⟩
    refine sp_B_put la (by omega) (fun q => absurd q c) (fun q => absurd q c) (fun T' wb g1 g2 g3 g4 g5 => hp T' ?_)
    have hb : wb = wa' ∧ ln T' wb = ln T wa' := by
      rcases g4 with ⟨q1, q2, q3⟩ | ⟨q1, q2, q3⟩
      · exact ⟨q1, q2⟩
      · exact absurd q3 c
    obtain ⟨b1, b2⟩ := hb
    subst b1
    refine ⟨?_, n20_trans nn g2, g5.trans f2, wb, ⟨g3.1, g3.2.1, g3.2.2.1, g3.2.2.2.1, g3.2.2.2.2.1, g3.2.2.2.2.2.1, fun i hi => ?_⟩, by rw [b2]; exact hg⟩
    · intro a ha
      obtain ⟨u1, u2, u3, u4⟩ := fr a ha
      obtain ⟨v1, v2, v3, v4⟩ := g1 a (by rw [u1]; exact ha)
      refine ⟨by rw [v1, u1], by rw [v2, u2], fun q => by rw [v3 q, u3 q], fun q => ?_⟩
      have hq : ¬ (a = lg ∨ a = wb) := by
        rintro (r | r)
        · exact q (Or.inl r)
        · rcases hg with g | g
          · exact q (Or.inr (by rw [r]; exact g.1))
          · rw [r] at ha; exact ha g.1
      rw [v4 hq, u4 q]
    · rw [g3.2.2.2.2.2.2 i hi]; exact lgapp_take hk hi
theorem lgapp_nil (w : Nat → Int) (n : Nat) {i : Nat} : lgapp w n [] i = w i := by
  unfold lgapp
  rw [if_neg]; simp
theorem wrec_len (b : List Int) : (wrec b).length = b.length + 2 := by unfold wrec; simp
theorem wrec_in {b : List Int} {k : Nat} (h : k < b.length) : (wrec b).getD k 0 = b.getD k 0 := by
  unfold wrec
  simp [List.getD_eq_getElem?_getD, List.getElem?_append_left h]
theorem wrec_0 (b : List Int) : (wrec b).getD b.length 0 = (b.length : Int) - 2147483648 := by
  unfold wrec
  simp [List.getD_eq_getElem?_getD]
theorem wrec_1 (b : List Int) : (wrec b).getD (b.length + 1) 0 = wsum b % 2147483648 - 2147483648 := by
  unfold wrec
  simp [List.getD_eq_getElem?_getD]
theorem sp_B_append {post : CS → Prop} {wa n da ta mc ms kd dy en : Nat} {w : Nat → Int} {tl body : List Int} (h : lgAt T lg wa n w) (hda : tg T da = 8) (fd0 : fi T da 0 = (kd : Int)) (fd1 : fi T da 1 = (dy : Int)) (hta : tg T ta = 11) (hl : ln T ta = tl.length) (hv : ∀ i, i < tl.length → fi T ta i = tl.getD i 0) (hne : ta ≠ wa) (hb : body = ((kd : Int) * 65536 + ((tl.length : Int) + 2)) :: ((en : Int) * 32768 + dy) :: tl) (htot : n + (wrec body).length ≤ 12000) (hbd : ∀ x ∈ body, 0 ≤ x ∧ x ≤ 700000000) (h36 : tl.length ≤ 36) (hm : ln T wa < n + (wrec body).length → 1 ≤ mc ∧ 2 * ln T wa ≤ ms)
    (hp : ∀ T' wa', Ty (fun a => a = lg ∨ a = wa) (fun a => a = lg) T T' → n20 T T' → lgAt T' lg wa' (n + (wrec body).length) (lgapp w n (wrec body)) → lgrow T T' wa wa' (n + (wrec body).length) → fi T' lg 2 = fi T lg 2 → post T') : wp_BLg_append post mc ms lg da en ta T := by
  have hbl : body.length = tl.length + 2 := by rw [hb]; simp
  have hwl := wrec_len body
  have l0 : n ≤ ln T wa ∧ 256 ≤ ln T wa := ⟨h.2.2.2.2.1, h.2.2.2.2.2.1.1⟩
  have s0 : stp T lg wa n w (wrec body) 0 mc ms T := ⟨Ty_refl _ _ _, n20_refl _, rfl, wa, ⟨h.1, h.2.1, h.2.2.1, h.2.2.2.1, h.2.2.2.2.1, h.2.2.2.2.2.1, fun i hi => by rw [List.take_zero, lgapp_nil]; exact h.2.2.2.2.2.2 i hi⟩, Or.inl ⟨rfl, rfl, hm⟩⟩
  have dl : lg ≠ da := fun q => by have := h.1; rw [q] at this; omega
  have dw : wa ≠ da := fun q => by have := h.2.2.2.1; rw [q] at this; omega
  have tlg : lg ≠ ta := fun q => by have := h.1; rw [q] at this; omega
  -- what stays of deed and text
  have kd' : ∀ {k mc ms T1}, stp T lg wa n w (wrec body) k mc ms T1 → tg T1 da = 8 ∧ fi T1 da 1 = (dy : Int) := fun s => by
    obtain ⟨a, b, c, d⟩ := s.1 da (by omega)
    exact ⟨a.trans hda, by rw [d (fun q => q.elim (fun r => dl r.symm) (fun r => dw r.symm))]; exact fd1⟩
  have kt : ∀ {k mc ms T1}, stp T lg wa n w (wrec body) k mc ms T1 → tg T1 ta = 11 ∧ ln T1 ta = tl.length ∧ fi T1 ta = fi T ta := fun s => by
    obtain ⟨a, b, c, d⟩ := s.1 ta (by omega)
    exact ⟨a.trans hta, b.trans hl, d (fun q => q.elim (fun r => tlg r.symm) (fun r => hne r))⟩
  have g0 : (wrec body).getD 0 0 = (kd : Int) * 65536 + ((tl.length : Int) + 2) := by rw [wrec_in (by omega), hb]; rfl
  have g1 : (wrec body).getD 1 0 = (en : Int) * 32768 + dy := by rw [wrec_in (by omega), hb]; rfl
  have g2 : ∀ k, k < tl.length → (wrec body).getD (k + 2) 0 = tl.getD k 0 := fun k hk => by rw [wrec_in (by omega), hb]; rfl
  -- the end
  have fin : ∀ T1 mc1 ms1, stp T lg wa n w (wrec body) (wrec body).length mc1 ms1 T1 → post T1 := by
    intro T1 mc1 ms1 s
    obtain ⟨a, b, c, wb, d, e⟩ := s
    rw [List.take_length] at d
    refine hp T1 wb a b d ?_ c
    rcases e with e | e
    · exact Or.inl ⟨e.1, e.2.1⟩
    · exact Or.inr e
  have loop : ∀ (m k mc1 ms1 : Nat) (T1 : CS), tl.length - k < m → k ≤ tl.length → stp T lg wa n w (wrec body) (k + 2) mc1 ms1 T1 → wp_BLg_append_50 post m mc1 ms1 lg (n : Int) ((tl.length : Int) + 2) ta (tl.length : Int) (k : Int) T1 := by
    intro m
    induction m with
    | zero => intro k mc1 ms1 T1 hm; omega
    | succ m ih =>
      intro k mc1 ms1 T1 hm hk s
      have tt := kt s
      unfold wp_BLg_append_50
      refine ⟨by unfold inR; omega, by unfold inR; omega, fun c => ?_, fun c => ⟨tt.1, ⟨by omega, by rw [tt.2.1]; omega⟩, fun v ev => ?_⟩⟩
      · have ek : k = tl.length := by omega
        subst ek
        obtain ⟨a, b, cc, wb, d, e⟩ := id s
        refine ⟨d.1, ?_⟩
        rw [show (tl.length : Int) + 2 = (body.length : Int) by omega]
        refine sp_B_sumOf d (body := body) (fun j hj => ?_) (by omega) hbd (by omega) ?_
        · have l2 : ((wrec body).take (tl.length + 2)).length = tl.length + 2 := by simp; omega
          unfold lgapp
          rw [l2, if_pos ⟨by omega, by omega⟩, show n + j - n = j by omega]
          have : ((wrec body).take (tl.length + 2)).getD j 0 = (wrec body).getD j 0 := by
            simp [List.getD_eq_getElem?_getD, List.getElem?_take, show j < tl.length + 2 by omega]
          rw [this, wrec_in hj]
        · obtain ⟨mc5, ms6, mc7, ms8, hs, ht, hput⟩ := stp_put s l0 (by omega) (by omega) (by omega)
          refine ⟨mc5, ms6, mc7, ms8, hs, ht, ?_⟩
          have e0 : (wrec body).getD (tl.length + 2) 0 = (-2147483648) + (body.length : Int) := by
            rw [← hbl, wrec_0]; omega
          rw [← e0]
          refine hput _ (fun T3 s3 => ?_)
          obtain ⟨nc5, ns6, nc7, ns8, hs', ht', hput'⟩ := stp_put s3 l0 (by omega) (by omega) (by omega)
          refine ⟨nc5, ns6, nc7, ns8, hs', ht', ?_⟩
          have e1 : (wrec body).getD (tl.length + 2 + 1) 0 = (-2147483648) + wsum body % 2147483648 := by
            rw [← hbl, wrec_1]; omega
          rw [← e1]
          refine hput' _ (fun T9 s9 => fin T9 nc7 ns8 ?_)
          rw [hwl, hbl]; exact s9
      · rw [Int.toNat_natCast, tt.2.2, hv k (by omega), ← g2 k (by omega)] at ev
        obtain ⟨mc5, ms6, mc7, ms8, hs, ht, hput⟩ := stp_put s l0 (by omega) (by omega) (by omega)
        refine ⟨mc5, ms6, mc7, ms8, hs, ht, ?_⟩
        rw [ev]
        refine hput _ (fun T3 s3 => ?_)
        have := ih (k + 1) mc7 ms8 T3 (by omega) (by omega) s3
        rw [show (k : Int) + 1 = ((k + 1 : Nat) : Int) by omega]
        exact this
  unfold wp_BLg_append
  rw [h.2.1, hl, fd0]
  refine ⟨h.1, fun v4 e4 => ⟨hta, fun v5 e5 => ⟨hda, ?_⟩⟩⟩
  obtain ⟨mc5, ms6, mc7, ms8, hs, ht, hput⟩ := stp_put s0 l0 (by omega) (by omega) (by omega)
  refine ⟨mc5, ms6, mc7, ms8, hs, ht, ?_⟩
  rw [e5, ← g0]
  refine hput _ (fun T3 s3 => ⟨(kd' s3).1, ?_⟩)
  obtain ⟨nc5, ns6, nc7, ns8, hs', ht', hput'⟩ := stp_put s3 l0 (by omega) (by omega) (by omega)
  refine ⟨nc5, ns6, nc7, ns8, hs', ht', ?_⟩
  rw [(kd' s3).2, ← g1]
  refine hput' _ (fun T9 s9 => ⟨(kt s9).1, fun v7 e7 => ⟨tl.length + 1, ?_⟩⟩)
  rw [e7, (kt s9).2.1, e4]
  exact loop _ 0 _ _ _ (by omega) (by omega) s9
end APP
