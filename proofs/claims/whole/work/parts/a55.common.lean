/-! deeds: what class and reference have in common -/
section CMN
variable {qs : List Nat} {ad : Nat → Nat → Nat} {T T' T1 T2 T3 : CS} {S S' : MS} {R R' : AR}
/-- why a deed is refused -/
def Rf (gone late bad much : Prop) (v : Int) : Prop := (v = -1 ∧ gone) ∨ (v = -2 ∧ ¬ gone ∧ late) ∨ (v = -3 ∧ ¬ gone ∧ ¬ late ∧ bad) ∨ (v = -4 ∧ ¬ gone ∧ ¬ late ∧ ¬ bad ∧ much)
section
variable {gone late bad much : Prop} {v v' : Int}
theorem Rf_uniq (h : Rf gone late bad much v) (g : Rf gone late bad much v') : v = v' := by
  rcases h with ⟨h1, h2⟩ | ⟨h1, h2, h3⟩ | ⟨h1, h2, h3, h4⟩ | ⟨h1, h2, h3, h4, h5⟩ <;> rcases g with ⟨g1, g2⟩ | ⟨g1, g2, g3⟩ | ⟨g1, g2, g3, g4⟩ | ⟨g1, g2, g3, g4, g5⟩ <;> first | (rw [h1, g1]; done) | (exfalso; first | exact h2 g2 | exact g2 h2 | exact h3 g3 | exact g3 h3 | exact h4 g4 | exact g4 h4)
theorem Rf_in (h : Rf gone late bad much v) : inR v := by
  rcases h with h | h | h | h <;> (have := h.1; unfold inR; omega)
theorem Rf_ne (h : Rf gone late bad much v) : ¬ (¬ gone ∧ ¬ late ∧ ¬ bad ∧ ¬ much) := by
  rintro ⟨g1, g2, g3, g4⟩
  rcases h with h | h | h | h
  · exact g1 h.2
  · exact g2 h.2.2
  · exact g3 h.2.2.2
  · exact g4 h.2.2.2.2
end
theorem arr1 {q : Nat} {v : Int} (hq : tg T q = 0) (y1 : T1 = cs_new T q 11 1) (y2 : T2 = cs_i T1 q 0 v) : Tx (fun _ => False) T T2 ∧ n20 T T2 ∧ tg T2 q = 11 ∧ ln T2 q = 1 ∧ fi T2 q 0 = v := by
  have x1 : Tx (fun _ => False) T T1 := by rw [y1]; exact Tx_new _ hq
  have g2 : Tw (fun a => a = q) T1 T2 := by rw [y2]; exact Tw_i rfl
  refine ⟨Tx_fresh x1 hq g2, n20_trans (by rw [y1]; exact n20_new (by decide)) (n20_tw g2), by rw [g2.1, y1]; exact new_tg _ _ _ _, by rw [g2.2.1, y1]; exact new_ln _ _ _ _, by rw [y2, cs_i_fi, if_pos ⟨rfl, rfl⟩]⟩
theorem arr2 {q : Nat} {v v' : Int} (hq : tg T q = 0) (y1 : T1 = cs_new T q 11 2) (y2 : T2 = cs_i T1 q 0 v) (y3 : T3 = cs_i T2 q 1 v') : Tx (fun _ => False) T T3 ∧ n20 T T3 ∧ tg T3 q = 11 ∧ ln T3 q = 2 ∧ fi T3 q 0 = v ∧ fi T3 q 1 = v' := by
  have x1 : Tx (fun _ => False) T T1 := by rw [y1]; exact Tx_new _ hq
  have g2 : Tw (fun a => a = q) T1 T3 := by rw [y3, y2]; exact Tw_trans (Tw_i rfl) (Tw_i rfl)
  refine ⟨Tx_fresh x1 hq g2, n20_trans (by rw [y1]; exact n20_new (by decide)) (n20_tw g2), by rw [g2.1, y1]; exact new_tg _ _ _ _, by rw [g2.2.1, y1]; exact new_ln _ _ _ _, ?_, by rw [y3, cs_i_fi, if_pos ⟨rfl, rfl⟩]⟩
  rw [y3, cs_i_fi, if_neg (by omega), y2, cs_i_fi, if_pos ⟨rfl, rfl⟩]
theorem inv_acc {j c n : Nat} (hc : c ≤ 61 + 1000 * j ∧ n ≤ 60361 + 14000 * j) (h1 : BK qs ad T R) (h2 : MD S R) (h3 : MG S) (h4 : WF R) (h5 : e20 T) (h6 : bt ad T R) (h7 : ln T (ad 9 0) ≤ 7000) (h8 : R.1 30 0 + (aRow R).length ≤ 6 * (j + 1)) (h9 : R.1 7 0 ≠ 0) : LInv qs (j + 1) (c + 1000) (n + 14000) T S :=
  ⟨⟨by omega, by omega⟩, ad, R, ⟨h1, h2, h3, h4, h5, h6, h7⟩, h8, fun z => absurd z h9⟩
theorem lgrow_ln {wa wa' tot : Nat} (h : lgrow T T' wa wa' tot) (h1 : ln T wa ≤ 7000) (h2 : tot ≤ 3072) : ln T' wa' ≤ 7000 := by
  rcases h with h | h
  · rw [h.2]; exact h1
  · rw [h.2.1]; omega
theorem grw_le {wa tot : Nat} (h2 : tot ≤ 3072) : grw T wa tot ≤ 6144 := by
  unfold grw; split <;> omega
/-- a new deed, entered -/
theorem sp_B_newdeed {post : Nat → Nat → Int → CS → Prop} (hq : qs.Nodup) (hl : qs.length = 30) (h : BK qs ad T R) (he : e20 T) {kd dy a b c p x y z na ta mc ms : Nat} {nm : List Nat} {tl body : List Int} (hna : tg T na = 11 ∧ ln T na = nm.length ∧ (∀ i, i < nm.length → fi T na i = ((nm.getD i 0 : Nat) : Int)) ∧ na ∉ qs ∧ na ≠ ad 9 0) (hta : tg T ta = 11 ∧ ln T ta = tl.length ∧ (∀ i, i < tl.length → fi T ta i = tl.getD i 0) ∧ ta ≠ ad 9 0) (hb : body = ((kd : Int) * 65536 + ((tl.length : Int) + 2)) :: (((R.1 15 0 + 1 : Nat) : Int) * 32768 + dy) :: tl) (hn : R.1 15 0 < 600) (htot : R.1 30 0 + (wrec body).length ≤ 3072) (hbd : ∀ x ∈ body, 0 ≤ x ∧ x ≤ 700000000) (h36 : tl.length ≤ 36) (hmc : 2 ≤ mc) (hms : 7144 ≤ ms) {q : Nat} (hq0 : tg T q = 0) (y1 : T1 = cs_new T q 8 0)
    (hp : ∀ T' ad', BK qs ad' T' (rEnt R kd dy a b c p x y z nm body) → Ty (fun a => a = qa qs 23 ∨ a = qa qs 28 ∨ a = ad 9 0) (fun a => a = qa qs 23 ∨ a = qa qs 28 ∨ tg T a = 13) T T' → n20 T T' → (∀ i, i ≠ 0 → i ≠ 3 → i ≠ 8 → i ≠ 9 → ad' i = ad i) → lgrow T T' (ad 9 0) (ad' 9 0) (R.1 30 0 + (wrec body).length) → post (mc - 2) (ms - 7144) ((R.1 15 0 + 1 : Nat) : Int) T') :
    wp_BDe_init6 (fun T_70 => ∃ mc_74 ms_75 mc_76 ms_77 : Nat, (mc = mc_74 + mc_76 ∧ ms = ms_75 + ms_77) ∧ tg T_70 (qa qs 0) = 1 ∧ wp_BLB_enter (fun r_73 T_72 => post mc_76 ms_77 r_73 T_72) mc_74 ms_75 (qa qs 0) q ta T_70) q kd dy na b c p T1 := by
  have x1 : Tx (fun _ => False) T T1 := by rw [y1]; exact Tx_new _ hq0
  have n1 : n20 T T1 := by rw [y1]; exact n20_new (by decide)
  refine sp_B_deinit (by rw [y1]; exact new_tg _ _ _ _) (fun T7 g7 n7 d7 => ⟨2, 7144, mc - 2, ms - 7144, ⟨by omega, by omega⟩, ?_⟩)
  have x7 : Tx (fun _ => False) T T7 := by
    intro u hu
    obtain ⟨v1, v2, v3, v4⟩ := x1 u hu
    have hne : u ≠ q := fun f => by rw [f] at hu; exact hu hq0
    obtain ⟨w1, w2, w3, w4⟩ := g7 u (by rw [v1]; exact hu)
    exact ⟨by rw [w1, v1], by rw [w2, v2], by rw [w3 hne, v3], fun f => by rw [w4 hne, v4 f]⟩
  have h7 := h.tx hq hl (Tx_mono x7 (fun u f => f.elim))
  have n07 := n20_trans n1 n7
  have un := x7 na (by omega)
  have ut := x7 ta (by omega)
  have t9 : tg T (ad 9 0) ≠ 0 := by have := h.2.2.2.2.2.2.2.2.2.2.2.1; omega
  have u9 := x7 (ad 9 0) t9
  refine ⟨h7.1.tag (by omega) rfl, sp_B_enter (a := a) (x := x) (y := y) (z := z) (nm := nm) hq hl h7 (he.n n07) d7 ?_ ⟨by rw [un.1]; exact hna.1, by rw [un.2.1]; exact hna.2.1, fun i hi => by rw [un.2.2.2 (fun f => f)]; exact hna.2.2.1 i hi, hna.2.2.2⟩ ⟨by rw [ut.1]; exact hta.1, by rw [ut.2.1]; exact hta.2.1, fun i hi => by rw [ut.2.2.2 (fun f => f)]; exact hta.2.2.1 i hi, hta.2.2.2⟩ hb hn (by omega) hbd h36 (by omega) (by have := grw_le (T := T7) (wa := ad 9 0) htot; omega) (fun T' ad' k1 k2 k3 k4 k5 => hp T' ad' k1 ?_ (n20_trans n07 k3) k4 ?_)⟩
  · intro d d1 d2 f
    have := h.2.2.2.1.1.2.2.2.2.1 d d1 d2
    rw [f, hq0] at this; omega
  · intro u hu
    obtain ⟨v1, v2, v3, v4⟩ := x7 u hu
    obtain ⟨w1, w2, w3, w4⟩ := k2 u (by rw [v1]; exact hu)
    refine ⟨by rw [w1, v1], by rw [w2, v2], fun f => by rw [w3 (fun r => f (by have r : u = qa qs 23 ∨ u = qa qs 28 ∨ tg T7 u = 13 := r; rw [v1] at r; exact r)), v3], fun f => by rw [w4 f, v4 (fun r => r)]⟩
  · rcases k5 with k5 | k5
    · exact Or.inl ⟨k5.1, by rw [k5.2, u9.2.1]⟩
    · refine Or.inr ⟨?_, by rw [k5.2.1, u9.2.1], by rw [← u9.2.1]; exact k5.2.2⟩
      exact Classical.byContradiction fun f => f (by rw [← (x7 _ f).1]; exact k5.1)
theorem MG.acc (h : MG S) (hs : S'.2 = S.2) : MG S' := h.e2 hs
end CMN
