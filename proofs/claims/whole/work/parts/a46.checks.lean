/-! THE CALLS: what holds between them, and the checks -/
section CHK
variable {qs : List Nat} {ad : Nat → Nat → Nat} {T T' T1 : CS} {S S' : MS} {R R' : AR}
def SI (qs : List Nat) (ad : Nat → Nat → Nat) (T : CS) (S : MS) (R : AR) : Prop := BK qs ad T R ∧ MD S R ∧ MG S ∧ WF R ∧ e20 T ∧ bt ad T R ∧ ln T (ad 9 0) ≤ 7000
def LInv (qs : List Nat) (j c n : Nat) (T : CS) (S : MS) : Prop := (c ≤ 61 + 1000 * j ∧ n ≤ 60361 + 14000 * j) ∧ ∃ ad R, SI qs ad T S R ∧ R.1 30 0 + (aRow R).length ≤ 6 * j ∧ (R.1 7 0 = 0 → ∀ f, 11 ≤ f → f ≤ 14 → S.2 f 1 = 0)
theorem mfr_i0 (S : MS) (v : Int) : mfr S (ms_i S 0 v) := by
  refine ⟨fun k h1 _ => ?_, fun k _ _ => rfl⟩
  show (if k = 0 then v else S.1 k) = S.1 k
  rw [if_neg (by omega)]
theorem ms_i0 (S : MS) (v : Int) : (ms_i S 0 v).1 0 = v := ms_i_same S 0 v
theorem SI.q (hq : qs.Nodup) (hl : qs.length = 30) (h : SI qs ad T S R) (g : Tx (scr qs) T T1) (n : n20 T T1) (m : mfr S S') : SI qs ad T1 S' R := by
  obtain ⟨h1, h2, h3, h4, h5, h6, h7⟩ := h
  refine ⟨h1.tx hq hl g, h2.fr m, h3.fr m, h4, h5.n n, h6.cg rfl (fun _ => rfl) (fun _ _ _ => rfl) (fun l a b => (g _ (by rw [h1.t7 a b]; omega)).2.1), ?_⟩
  rw [(g _ (by have := h1.2.2.2.2.2.2.2.2.2.2.2.1; omega)).2.1]; exact h7
theorem inv_q (hq : qs.Nodup) (hl : qs.length = 30) {j c n : Nat} (h : SI qs ad T S R) (hc : c ≤ 61 + 1000 * j ∧ n ≤ 60361 + 14000 * j) (hw : R.1 30 0 + (aRow R).length ≤ 6 * j) (hz : R.1 7 0 = 0 → ∀ f, 11 ≤ f → f ≤ 14 → S.2 f 1 = 0) (g : Tx (scr qs) T T1) (g2 : n20 T T1) (m : mfr S S') : LInv qs (j + 1) (c + 1000) (n + 14000) T1 S' :=
  ⟨⟨by omega, by omega⟩, ad, R, h.q hq hl g g2 m, by omega, fun z f f1 f2 => by rw [m.2 f (by omega) (by omega)]; exact hz z f f1 f2⟩
/-- the end of a call that returns, and of one that throws -/
theorem fin_r {f : Nat → Int64} {r b : Int} {S1 : MS} {P : Prop} (hr : inR r) (hb : b = r) (h0 : S1.1 0 = 0) (hi : P) : inR b ∧ S1.1 0 = 0 ∧ ((0 : Int) = 0 → vp_updL f 0 (lI r) 0 = lI b) ∧ P := by
  subst hb; exact ⟨hr, h0, fun _ => rfl, hi⟩
theorem fin_e {f1 : Nat → Int64} {cd : Int} {S1 : MS} {P : Prop} (hc : cd ≠ 0) (h0 : S1.1 0 = cd) (hi : P) : inR 0 ∧ S1.1 0 = cd ∧ (cd = 0 → f1 0 = lI 0) ∧ P := ⟨inR_lit0, h0, fun f => absurd f hc, hi⟩
theorem sp_Mo_isUp {post : Int → MS → Prop} (h : MD S R) (w : WR R) (p1 : 1 ≤ R.1 7 0 → R.1 2 0 = 0 → post 1 S) (p0 : ¬ (1 ≤ R.1 7 0 ∧ R.1 2 0 = 0) → post 0 S) : wp_Mo_isUp post S := by
  have e1 := h.1.1
  have e2 := h.sc (f := 2) (by omega)
  have W := w.1
  unfold wp_Mo_isUp
  rw [e1, e2]
  by_cases c : R.1 7 0 = 0
  · rw [if_pos c]
    exact ⟨inR_lit0, fun _ => p0 (by omega), fun f => absurd rfl f⟩
  · rw [if_neg c]
    refine ⟨inR_lit1, fun f => absurd f (by decide), fun _ => ⟨by unfold inR; omega, fun f => p0 (by omega), fun f => p1 (by omega) (by omega)⟩⟩
theorem sp_Mo_isLot {post : Int → MS → Prop} (h : MD S R) (w : WR R) {a : Int} (ha : inR a) (p1 : ∀ l : Nat, a = (l : Int) → 1 ≤ l → l ≤ R.1 7 0 → post 1 S) (p0 : ¬ (1 ≤ a ∧ a ≤ (R.1 7 0 : Int)) → post 0 S) : wp_Mo_isLot post a S := by
  have W := w.1
  unfold wp_Mo_isLot
  rw [h.nl]
  refine ⟨ha, fun c => p0 (by omega), fun c => ⟨ha, by unfold inR; omega, fun c2 => p0 (by omega), fun c2 => p1 a.toNat (by omega) (by omega) (by omega)⟩⟩
theorem sp_Mo_wrong {post : Int → MS → Prop} (h : MD S R) (w : WR R) {a y e : Int} {b : Bool} (ha : inR a) (hy : inR y) (he : inR e) (p1 : ¬ (1 ≤ R.1 7 0 ∧ R.1 2 0 = 0) → post 1 S) (p2 : 1 ≤ R.1 7 0 → R.1 2 0 = 0 → ¬ (1 ≤ a ∧ a ≤ (R.1 7 0 : Int)) → post 2 S) (p3 : 1 ≤ R.1 7 0 → R.1 2 0 = 0 → (1 ≤ a ∧ a ≤ (R.1 7 0 : Int)) → ¬ (((0 ≤ y ∧ y ≤ 30000) ∧ 0 ≤ e) ∧ b = true) → post 3 S)
    (p0 : 1 ≤ R.1 7 0 → R.1 2 0 = 0 → (1 ≤ a ∧ a ≤ (R.1 7 0 : Int)) → ((0 ≤ y ∧ y ≤ 30000) ∧ 0 ≤ e) → b = true → post 0 S) : wp_Mo_wrong post a y e (bI b) S := by
  unfold wp_Mo_wrong
  refine sp_Mo_isUp h w (fun u1 u2 => ⟨inR_lit1, fun _ => sp_Mo_isLot h w ha (fun l l1 l2 l3 => ⟨inR_lit1, fun _ => sp_Mo_isWhen hy he (fun c => ⟨inR_lit1, fun f => absurd f (by decide), fun _ => ⟨bI_in b, fun f => p0 u1 u2 (by omega) c (bI_ne.mp f), fun f => p3 u1 u2 (by omega) (fun q => by rw [bI_0, q.2] at f; exact absurd f (by decide))⟩⟩) (fun c => ⟨inR_lit0, fun _ => p3 u1 u2 (by omega) (fun q => c q.1), fun f => absurd rfl f⟩), fun f => absurd f (by decide)⟩) (fun c => ⟨inR_lit0, fun f => absurd rfl f, fun _ => p2 u1 u2 c⟩), fun f => absurd f (by decide)⟩) (fun c => ⟨inR_lit0, fun f => absurd rfl f, fun _ => p1 c⟩)
variable {post : CS → Prop} {pe : String → CS → Prop} {mc ms : Nat}
theorem sp_B_up (h : BK qs ad T R) (w : WR R) (hm : 1 ≤ mc ∧ 6 ≤ ms) (p1 : 1 ≤ R.1 7 0 → R.1 2 0 = 0 → post T) (p0 : ¬ (1 ≤ R.1 7 0 ∧ R.1 2 0 = 0) → pe "java/lang/IllegalStateException" T) : wp_BLB_checkUp post pe mc ms (qa qs 0) T := by
  have t0 : tg T (qa qs 0) = 1 := h.1.tag (by omega) rfl
  have r4 : fo T (qa qs 0) 4 = some (qa qs 22) := h.1.ref (i := 0) (j := 4) (z := 22) (by omega) rfl (by omega)
  have t22 : tg T (qa qs 22) = 5 := h.1.tag (by omega) rfl
  have W := w.1
  unfold wp_BLB_checkUp
  rw [h.2.1.1]
  refine ⟨t0, by unfold inR; omega, fun c => ⟨hm, p0 (by omega)⟩, fun c => ⟨t0, qa qs 22, r4, t22, sp_B_lotCount h ⟨by unfold inR; omega, fun d => p1 (by omega) (by omega), fun d => ⟨hm, p0 (by omega)⟩⟩⟩⟩
theorem sp_B_ckLot (h : BK qs ad T R) (w : WR R) {a : Int} (ha : inR a) (hm : 1 ≤ mc ∧ 6 ≤ ms) (p1 : ∀ l : Nat, a = (l : Int) → 1 ≤ l → l ≤ R.1 7 0 → post T) (p0 : ¬ (1 ≤ a ∧ a ≤ (R.1 7 0 : Int)) → pe "java/lang/IndexOutOfBoundsException" T) : wp_BLB_checkLot post pe mc ms (qa qs 0) a T := by
  have t0 : tg T (qa qs 0) = 1 := h.1.tag (by omega) rfl
  have r4 : fo T (qa qs 0) 4 = some (qa qs 22) := h.1.ref (i := 0) (j := 4) (z := 22) (by omega) rfl (by omega)
  have t22 : tg T (qa qs 22) = 5 := h.1.tag (by omega) rfl
  have W := w.1
  unfold wp_BLB_checkLot
  refine ⟨ha, fun c => ⟨hm, p0 (by omega)⟩, fun c => ⟨t0, qa qs 22, r4, t22, sp_B_lotCount h ⟨ha, by unfold inR; omega, fun d => p1 a.toNat (by omega) (by omega) (by omega), fun d => ⟨hm, p0 (by omega)⟩⟩⟩⟩
theorem sp_B_ckRel {a : Int} (ha : inR a) (hm : 1 ≤ mc ∧ 6 ≤ ms) (p1 : a = 0 ∨ a = 1 → post T) (p0 : ¬ (a = 0 ∨ a = 1) → pe "java/lang/IndexOutOfBoundsException" T) : wp_BLB_checkRelative post pe mc ms a T := by
  unfold wp_BLB_checkRelative
  exact ⟨ha, fun c => p1 (Or.inl c), fun c => ⟨ha, fun d => p1 (Or.inr d), fun d => ⟨hm, p0 (fun f => f.elim c d)⟩⟩⟩
theorem sp_B_ckPoint {a b : Int} (ha : inR a) (hb : inR b) (hm : 1 ≤ mc ∧ 6 ≤ ms) (p1 : ig_ok (a, b) → post T) (p0 : ¬ ig_ok (a, b) → pe "java/lang/IllegalArgumentException" T) : wp_BLB_checkPoint post pe mc ms a b T := by
  unfold wp_BLB_checkPoint
  unfold ig_ok at p1 p0
  exact ⟨ha, fun c => ⟨hm, p0 (fun f => by have := f.1; simp only at this; omega)⟩, fun c => ⟨ha, fun c2 => ⟨hm, p0 (fun f => by have := f.2.1; simp only at this; omega)⟩, fun c2 => ⟨hb, fun c3 => ⟨hm, p0 (fun f => by have := f.2.2.1; simp only at this; omega)⟩, fun c3 => ⟨hb, fun c4 => p1 ⟨by simp only; omega, by simp only; omega, by simp only; omega, by simp only; omega⟩, fun c4 => ⟨hm, p0 (fun f => by have := f.2.2.2; simp only at this; omega)⟩⟩⟩⟩⟩
theorem sp_B_ckDay {a : Int} (ha : inR a) (hm : 1 ≤ mc ∧ 6 ≤ ms) (p1 : 0 ≤ a ∧ a ≤ 30000 → post T) (p0 : ¬ (0 ≤ a ∧ a ≤ 30000) → pe "java/lang/IllegalArgumentException" T) : wp_BLB_checkDay post pe mc ms a T := by
  unfold wp_BLB_checkDay
  exact ⟨ha, fun c => ⟨hm, p0 (by omega)⟩, fun c => ⟨ha, fun d => p1 (by omega), fun d => ⟨hm, p0 (by omega)⟩⟩⟩
theorem sp_B_ckAsOf {a b : Int} (ha : inR a) (hb : inR b) (hm : 2 ≤ mc ∧ 12 ≤ ms) (p1 : (0 ≤ a ∧ a ≤ 30000) ∧ 0 ≤ b → post T) (p0 : ¬ ((0 ≤ a ∧ a ≤ 30000) ∧ 0 ≤ b) → pe "java/lang/IllegalArgumentException" T) : wp_BLB_checkAsOf post pe mc ms a b T := by
  unfold wp_BLB_checkAsOf
  refine ⟨1, 6, mc - 1, ms - 6, ⟨by omega, by omega⟩, sp_B_ckDay ha ⟨by omega, by omega⟩ (fun c => ⟨hb, fun d => p1 ⟨c, d⟩, fun d => ⟨⟨by omega, by omega⟩, p0 (fun f => d f.2)⟩⟩) (fun c => p0 (fun f => c f.1))⟩
theorem sp_B_ckPerson {a : Int} (ha : inR a) (hm : 1 ≤ mc ∧ 6 ≤ ms) (p1 : 0 ≤ a ∧ a ≤ 99 → post T) (p0 : ¬ (0 ≤ a ∧ a ≤ 99) → pe "java/lang/IllegalArgumentException" T) : wp_BLB_checkPerson post pe mc ms a T := by
  unfold wp_BLB_checkPerson
  exact ⟨ha, fun c => ⟨hm, p0 (by omega)⟩, fun c => ⟨ha, fun d => p1 (by omega), fun d => ⟨hm, p0 (by omega)⟩⟩⟩
theorem sp_B_ckTerm {a : Int} (ha : inR a) (hm : 1 ≤ mc ∧ 6 ≤ ms) (p1 : 1 ≤ a ∧ a ≤ 5040 → post T) (p0 : ¬ (1 ≤ a ∧ a ≤ 5040) → pe "java/lang/IllegalArgumentException" T) : wp_BLB_checkTerm post pe mc ms a T := by
  unfold wp_BLB_checkTerm
  exact ⟨ha, fun c => ⟨hm, p0 (by omega)⟩, fun c => ⟨ha, fun d => p1 (by omega), fun d => ⟨hm, p0 (by omega)⟩⟩⟩
theorem sp_B_ckPlace {a : Int} (ha : inR a) (hm : 1 ≤ mc ∧ 6 ≤ ms) (p1 : 0 ≤ a → post T) (p0 : ¬ 0 ≤ a → pe "java/lang/IllegalArgumentException" T) : wp_BLB_checkPlace post pe mc ms a T := by
  unfold wp_BLB_checkPlace
  exact ⟨ha, p1, fun d => ⟨hm, p0 d⟩⟩
end CHK
