/-! a deed entered -/
section ENB
variable {qs : List Nat} {ad : Nat → Nat → Nat} {T T' T1 : CS} {R : AR}
def e20 (T : CS) : Prop := ∀ a, tg T a = 20 → ∀ b, tg T b = 20 → a = b
theorem e20.n (h : e20 T) (g : n20 T T') : e20 T' := fun a ha b hb => h a (g a ha) b (g b hb)
def grw (T : CS) (wa tot : Nat) : Nat := if ln T wa < tot then 2 * ln T wa else 0
/-- what a deed object is -/
def deedIs (T : CS) (da na kd dy b c p : Nat) : Prop := tg T da = 8 ∧ fi T da 0 = (kd : Int) ∧ fi T da 1 = (dy : Int) ∧ fo T da 2 = some na ∧ fi T da 3 = (b : Int) ∧ fi T da 4 = (c : Int) ∧ fi T da 5 = (p : Int)
theorem sp_B_enter {post : Int → CS → Prop} (hq : qs.Nodup) (hl : qs.length = 30) (h : BK qs ad T R) (he : e20 T) {kd dy a b c p x y z da na ta mc ms : Nat} {nm : List Nat} {tl body : List Int} (hd : deedIs T da na kd dy b c p) (hnew : ∀ d, 1 ≤ d → d ≤ R.1 15 0 → ad 0 d ≠ da) (hna : tg T na = 11 ∧ ln T na = nm.length ∧ (∀ i, i < nm.length → fi T na i = ((nm.getD i 0 : Nat) : Int)) ∧ na ∉ qs ∧ na ≠ ad 9 0) (hta : tg T ta = 11 ∧ ln T ta = tl.length ∧ (∀ i, i < tl.length → fi T ta i = tl.getD i 0) ∧ ta ≠ ad 9 0) (hb : body = ((kd : Int) * 65536 + ((tl.length : Int) + 2)) :: (((R.1 15 0 + 1 : Nat) : Int) * 32768 + dy) :: tl) (hn : R.1 15 0 < 600) (htot : R.1 30 0 + (wrec body).length ≤ 12000) (hbd : ∀ x ∈ body, 0 ≤ x ∧ x ≤ 700000000) (h36 : tl.length ≤ 36) (hmc : 2 ≤ mc) (hms : 1000 + grw T (ad 9 0) (R.1 30 0 + (wrec body).length) ≤ ms)
    (hp : ∀ T' ad', BK qs ad' T' (rEnt R kd dy a b c p x y z nm body) → Ty (fun a => a = qa qs 23 ∨ a = qa qs 28 ∨ a = ad 9 0) (fun a => a = qa qs 23 ∨ a = qa qs 28 ∨ tg T a = 13) T T' → n20 T T' → (∀ i, i ≠ 0 → i ≠ 3 → i ≠ 8 → i ≠ 9 → ad' i = ad i) → lgrow T T' (ad 9 0) (ad' 9 0) (R.1 30 0 + (wrec body).length) → post ((R.1 15 0 + 1 : Nat) : Int) T') : wp_BLB_enter post mc ms (qa qs 0) da ta T := by
  have t0 := h.1.tag (i := 0) (t := 1) (by omega) rfl
  have t22 := h.1.tag (i := 22) (t := 5) (by omega) rfl
  have f04 := h.1.ref (i := 0) (j := 4) (z := 22) (by omega) rfl (by omega)
  have f05 := h.1.ref (i := 0) (j := 5) (z := 28) (by omega) rfl (by omega)
  have f22 := h.1.ref (i := 22) (j := 0) (z := 23) (by omega) rfl (by omega)
  have L := h.lst
  have A0 := L.1 0 (by omega)
  have lg0 := h.lg
  have t28 := lg0.1
  have twa := lg0.2.2.2.1
  obtain ⟨d1, d2, d3, d4, d5, d6, d7⟩ := hd
  obtain ⟨n1, n2, n3, n4, n5⟩ := hna
  obtain ⟨x1, x2, x3, x4⟩ := hta
  have q0 : qa qs 0 ≠ qa qs 23 := fun q => by have := qa_inj hq hl (by omega) (by omega) q; omega
  have q22 : qa qs 22 ≠ qa qs 23 := fun q => by have := qa_inj hq hl (by omega) (by omega) q; omega
  have q028 : qa qs 0 ≠ qa qs 28 := fun q => by have := qa_inj hq hl (by omega) (by omega) q; omega
  unfold wp_BLB_enter
  refine ⟨t0, qa qs 22, f04, 1, 1000, mc - 1, ms - 1000, ⟨by omega, by omega⟩, t22, ?_⟩
  unfold wp_BRg_enter
  refine ⟨t22, qa qs 23, f22, 1, 1000, 0, 0, ⟨by omega, by omega⟩, A0.1, ?_⟩
  refine sp_B_add A0 (by omega) he (by rw [d1]) (by show R.1 15 0 < 600; exact hn) (fun i a b => hnew i a b) (by omega) (by omega) (fun T2 x' g2 al2 tx2 hx2 k20 => ?_)
  have L2 := lst3_add hq hl L (by omega) g2 al2 tx2 hx2
  have u0 := g2 (qa qs 0) (by omega)
  have u22 := g2 (qa qs 22) (by omega)
  have u28 := g2 (qa qs 28) (by omega)
  have no13 : ∀ a, tg T a ≠ 13 → a ≠ qa qs 23 → ¬ (a = qa qs 23 ∨ a = ad 8 0 ∧ tg T (ad 8 0) = 13) := by
    rintro a ha hb (q | q)
    · exact hb q
    · rw [q.1] at ha; exact ha q.2
  have o0 := u0.2.2.1 (no13 _ (by omega) q0)
  have o22 := u22.2.2.1 (no13 _ (by omega) q22)
  have q28 : qa qs 28 ≠ qa qs 23 := fun q => by have := qa_inj hq hl (by omega) (by omega) q; omega
  have o28 := u28.2.2.1 (no13 _ (by omega) q28)
  have i28 := u28.2.2.2 q28
  refine ⟨by rw [u22.1]; exact t22, qa qs 23, by rw [o22]; exact f22, al2.1, al2.1, ?_⟩
  rw [al2.2.1]
  refine ⟨by rw [u0.1]; exact t0, qa qs 28, by rw [o0]; exact f05, mc - 1, ms - 1000, 0, 0, ⟨by omega, by omega⟩, by rw [u28.1]; exact t28, ?_⟩
  have uwa := g2 (ad 9 0) (by omega)
  have qwa : ad 9 0 ≠ qa qs 23 := fun q => by have := A0.1; rw [← q] at this; omega
  have lg2 : lgAt T2 (qa qs 28) (ad 9 0) (R.1 30 0) (aLg R) := by
    obtain ⟨a1, a2, a3, a4, a5, a6, a7⟩ := lg0
    exact ⟨by rw [u28.1]; exact a1, by rw [i28]; exact a2, by rw [o28]; exact a3, by rw [uwa.1]; exact a4, by rw [uwa.2.1]; exact a5, by rw [uwa.2.1]; exact a6, fun i hi => by rw [uwa.2.2.2 qwa]; exact a7 i hi⟩
  have uda := g2 da (by omega)
  have qda : da ≠ qa qs 23 := fun q => by have := A0.1; rw [← q] at this; omega
  have uta := g2 ta (by omega)
  have qta : ta ≠ qa qs 23 := fun q => by have := A0.1; rw [← q] at this; omega
  refine sp_B_append (kd := kd) (dy := dy) (en := R.1 15 0 + 1) (tl := tl) (body := body) lg2 (by rw [uda.1]; exact d1) (by rw [uda.2.2.2 qda]; exact d2) (by rw [uda.2.2.2 qda]; exact d3) (by rw [uta.1]; exact x1) (by rw [uta.2.1]; exact x2) (fun i hi => by rw [uta.2.2.2 qta]; exact x3 i hi) x4 hb htot hbd h36 ?_ (fun T3 wa' g3 n3' lg3 gr3 f3 => ?_)
  · rw [uwa.2.1]
    intro q
    have : grw T (ad 9 0) (R.1 30 0 + (wrec body).length) = 2 * ln T (ad 9 0) := if_pos q
    omega
  · -- the frame
    have fr : Ty (fun a => a = qa qs 23 ∨ a = qa qs 28 ∨ a = ad 9 0) (fun a => a = qa qs 23 ∨ a = qa qs 28 ∨ tg T a = 13) T T3 := by
      refine Ty_trans (Ty_mono g2 (fun a q => Or.inl q) (fun a q => ?_)) ?_
      · rcases q with q | q
        · exact Or.inl q
        · exact Or.inr (Or.inr (by rw [q.1]; exact q.2))
      · exact Ty_mono g3 (fun a q => Or.inr q) (fun a q => Or.inr (Or.inl q))
    have nn : n20 T T3 := n20_trans k20 n3'
    have gr : lgrow T T3 (ad 9 0) wa' (R.1 30 0 + (wrec body).length) := by
      rcases gr3 with r | r
      · exact Or.inl ⟨r.1, by rw [r.2, uwa.2.1]⟩
      · refine Or.inr ⟨?_, by rw [r.2.1, uwa.2.1], by rw [← uwa.2.1]; exact r.2.2⟩
        exact Classical.byContradiction fun f => f (by rw [← (g2 wa' f).1]; exact r.1)
    have P := h.parts hq hl fr (fun a q => ?_) (fun a q => ?_)
    · obtain ⟨p1, p2, p3, p4, p5, p6⟩ := P
      refine hp T3 (updN (updN (adL ad 0 (R.1 15 0 + 1) da x') 3 (updN (ad 3) (R.1 15 0 + 1) na)) 9 (updN (ad 9) 0 wa')) ?_ fr nn ?_ ?_
      · have e0 : ∀ k, (updN (updN (adL ad 0 (R.1 15 0 + 1) da x') 3 (updN (ad 3) (R.1 15 0 + 1) na)) 9 (updN (ad 9) 0 wa')) 0 k = if k = R.1 15 0 + 1 then da else ad 0 k := fun k => by
          rw [updN_n _ _ _ (by omega), updN_n _ _ _ (by omega), adL_i _ _ _ _ _ (by omega)]; rfl
        have e3 : ∀ k, (updN (updN (adL ad 0 (R.1 15 0 + 1) da x') 3 (updN (ad 3) (R.1 15 0 + 1) na)) 9 (updN (ad 9) 0 wa')) 3 k = if k = R.1 15 0 + 1 then na else ad 3 k := fun k => by
          rw [updN_n _ _ _ (by omega), updN_s]; rfl
        have e9 : (updN (updN (adL ad 0 (R.1 15 0 + 1) da x') 3 (updN (ad 3) (R.1 15 0 + 1) na)) 9 (updN (ad 9) 0 wa')) 9 0 = wa' := by
          rw [updN_s, updN_s]
        have eo : ∀ i, i ≠ 0 → i ≠ 3 → i ≠ 8 → i ≠ 9 → (updN (updN (adL ad 0 (R.1 15 0 + 1) da x') 3 (updN (ad 3) (R.1 15 0 + 1) na)) 9 (updN (ad 9) 0 wa')) i = ad i := fun i a b c d => by
          rw [updN_n _ _ _ d, updN_n _ _ _ b, adL_o _ _ _ _ _ c a]
        have e8 : ∀ i, i < 3 ∨ i = 8 → (updN (updN (adL ad 0 (R.1 15 0 + 1) da x') 3 (updN (ad 3) (R.1 15 0 + 1) na)) 9 (updN (ad 9) 0 wa')) i = adL ad 0 (R.1 15 0 + 1) da x' i := fun i hi => by
          rw [updN_n _ _ _ (by omega), updN_n _ _ _ (by omega)]
        generalize (updN (updN (adL ad 0 (R.1 15 0 + 1) da x') 3 (updN (ad 3) (R.1 15 0 + 1) na)) 9 (updN (ad 9) 0 wa')) = ad' at *
        have wne : ∀ a, tg T a = 11 → a ≠ ad 9 0 → a ≠ wa' := by
          intro a ha hb q
          rcases gr with r | r
          · exact hb (by rw [q]; exact r.1)
          · rw [q, r.1] at ha; omega
        refine BK.mk p1 p2 p3 ?_ ?_ ?_ ?_ ?_
        · refine (L2.ty g3 (fun a q => ?_) (fun a q => ?_)).cg (fun i hi => ?_) e8
          · have a1 : a ≠ qa qs 28 := fun r => by rw [r, u28.1] at q; omega
            have a2 : a ≠ ad 9 0 := fun r => by rw [r, uwa.1] at q; omega
            exact ⟨fun r => r.elim a1 a2, a1⟩
          · intro r; rw [r, u28.1] at q; omega
          · rcases (show i = 0 ∨ i = 1 ∨ i = 2 by omega) with r | r | r <;> subst r <;> rfl
        · intro d q1 q2
          have q2' : d ≤ R.1 15 0 + 1 := q2
          by_cases cc : d = R.1 15 0 + 1
          · subst cc
            have v := fr da (by omega)
            have vn := fr na (by omega)
            have da28 : ¬ (da = qa qs 23 ∨ da = qa qs 28 ∨ da = ad 9 0) := by
              rintro (r | r | r)
              · exact qda r
              · rw [r] at d1; omega
              · rw [r] at d1; omega
            have na28 : ¬ (na = qa qs 23 ∨ na = qa qs 28 ∨ na = ad 9 0) := by
              rintro (r | r | r)
              · exact n4 (by rw [r]; exact qa_mem hl (by omega))
              · exact n4 (by rw [r]; exact qa_mem hl (by omega))
              · exact n5 r
            have dao : ¬ (da = qa qs 23 ∨ da = qa qs 28 ∨ tg T da = 13) := by
              rintro (r | r | r)
              · exact qda r
              · rw [r] at d1; omega
              · omega
            unfold deedAt
            rw [e0, e3, if_pos rfl, if_pos rfl, e9, v.2.2.2 da28, v.2.2.1 dao, vn.1, vn.2.1, vn.2.2.2 na28]
            have k16 : (rEnt R kd dy a b c p x y z nm body).1 16 (R.1 15 0 + 1) = kd := by simp [rEnt, nsets, nset]
            have k17 : (rEnt R kd dy a b c p x y z nm body).1 17 (R.1 15 0 + 1) = dy := by simp [rEnt, nsets, nset]
            have k19 : (rEnt R kd dy a b c p x y z nm body).1 19 (R.1 15 0 + 1) = b := by simp [rEnt, nsets, nset]
            have k20' : (rEnt R kd dy a b c p x y z nm body).1 20 (R.1 15 0 + 1) = c := by simp [rEnt, nsets, nset]
            have k21 : (rEnt R kd dy a b c p x y z nm body).1 21 (R.1 15 0 + 1) = p := by simp [rEnt, nsets, nset]
            have knm : aNm (rEnt R kd dy a b c p x y z nm body) (R.1 15 0 + 1) = nm := updN_s _ _ _
            rw [k16, k17, k19, k20', k21, knm]
            exact ⟨d2, d3, fun _ => ⟨d5, d6, d7⟩, d4, n1, n2, n3, n4, wne na n1 n5⟩
          · have hh := p4 d q1 (by omega)
            unfold deedAt at hh ⊢
            rw [e0, e3, if_neg cc, if_neg cc, e9]
            have kk : ∀ f, 16 ≤ f → f ≤ 21 → (rEnt R kd dy a b c p x y z nm body).1 f d = R.1 f d := by
              intro f f1 f2
              simp [rEnt, nsets, nset, cc, show f ≠ 15 by omega, show f ≠ 30 by omega]
            have knm : aNm (rEnt R kd dy a b c p x y z nm body) d = aNm R d := updN_n _ _ _ cc
            rw [kk 16 (by omega) (by omega), kk 17 (by omega) (by omega), kk 19 (by omega) (by omega), kk 20 (by omega) (by omega), kk 21 (by omega) (by omega), knm]
            have t3 := (h.2.2.2.2.2.1 d q1 (by omega)).2.2.2.2.1
            exact ⟨hh.1, hh.2.1, hh.2.2.1, hh.2.2.2.1, hh.2.2.2.2.1, hh.2.2.2.2.2.1, hh.2.2.2.2.2.2.1, hh.2.2.2.2.2.2.2.1, wne _ t3 hh.2.2.2.2.2.2.2.2⟩
        · intro l q1 q2
          have hh := p5 l q1 q2
          have o9 := h.2.2.2.2.2.2.1 l q1 q2
          unfold lotAt at hh ⊢
          rw [eo 1 (by omega) (by omega) (by omega) (by omega), eo 4 (by omega) (by omega) (by omega) (by omega), eo 5 (by omega) (by omega) (by omega) (by omega), eo 6 (by omega) (by omega) (by omega) (by omega), eo 7 (by omega) (by omega) (by omega) (by omega), e9]
          exact ⟨hh.1, hh.2.1, hh.2.2.1, hh.2.2.2.1, hh.2.2.2.2.1, hh.2.2.2.2.2.1, hh.2.2.2.2.2.2.1, wne _ o9.2.1.2.2.1 hh.2.2.2.2.2.2.2.1, wne _ o9.2.2.2.2.1.2.1 hh.2.2.2.2.2.2.2.2⟩
        · intro e q1 q2
          have hh := p6 e q1 q2
          unfold easAt at hh ⊢
          rw [eo 2 (by omega) (by omega) (by omega) (by omega)]
          exact hh
        · have k30 : (rEnt R kd dy a b c p x y z nm body).1 30 0 = R.1 30 0 + (wrec body).length := by simp [rEnt, nsets, nset]
          have k31 : (rEnt R kd dy a b c p x y z nm body).1 31 0 = R.1 31 0 := by simp [rEnt, nsets, nset]
          have f2 : fi T (qa qs 28) 2 = (R.1 31 0 : Int) := h.2.2.2.2.2.2.2.2.2.1
          unfold logAt
          rw [e9, k30, k31]
          refine ⟨lg3.2.1, by rw [f3, i28]; exact f2, lg3.2.2.1, lg3.2.2.2.1, ⟨lg3.2.2.2.2.1, lg3.2.2.2.2.2.1⟩, lg3.2.2.2.2.2.2, ?_⟩
          rcases gr with r | r
          · rw [r.1]; exact h.2.2.2.2.2.2.2.2.2.2.2.2.2.2
          · refine Or.inr (fun q => ?_)
            obtain ⟨i, hi, ei⟩ := List.mem_iff_getElem.mp q
            have := (h.1 i (by omega)).1
            rw [show qa qs i = wa' by unfold qa; rw [← ei]; simp [hi], r.1] at this
            have := (t0_tag_lo i (by omega)).1
            omega
      · intro i a b c d
        rw [updN_n _ _ _ d, updN_n _ _ _ b, adL_o _ _ _ _ _ c a]
      · rw [updN_s, updN_s]; exact gr
    · rcases q with q | q | q
      · exact Or.inl (by rw [q]; exact A0.1)
      · exact Or.inr (Or.inl (by rw [q]; exact t28))
      · exact Or.inr (Or.inr q)
    · rcases q with q | q | q
      · exact Or.inl (by rw [q]; exact A0.1)
      · exact Or.inr (Or.inr (by rw [q]; exact t28))
      · exact Or.inr (Or.inl q)
end ENB
