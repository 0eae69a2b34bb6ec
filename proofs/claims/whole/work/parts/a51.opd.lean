/-! calls: area2, share, next, burden, lotAt: the reference -/
noncomputable def pB (P : Prop) : Bool := @decide P (Classical.propDecidable P)
theorem pB_iff {P : Prop} : pB P = true ↔ P := @decide_eq_true_iff P (Classical.propDecidable P)
theorem pB_f {P : Prop} : pB P = false ↔ ¬ P := by
  cases e : pB P
  · exact ⟨fun _ q => by rw [pB_iff.mpr q] at e; exact absurd e (by decide), fun _ => rfl⟩
  · exact ⟨fun f => absurd f (by decide), fun q => absurd (pB_iff.mp e) q⟩
section OPD
variable {S : MS} {R : AR} {post : Int → MS → Prop}
theorem sp_Mo_areNext (h : MD S R) (w : WR R) {a b : Nat} (a1 : 1 ≤ a) (a2 : a ≤ R.1 7 0) (b1 : 1 ≤ b) (b2 : b ≤ R.1 7 0) (p1 : ig_next (aRing R a) (aRing R b) → post 1 S) (p0 : ¬ ig_next (aRing R a) (aRing R b) → post 0 S) : wp_Mo_areNext post a b S := by
  have W := w.1
  have ra := w.rg a1 a2
  have rb := w.rg b1 b2
  have la := ra.2.1
  have lb := rb.2.1
  have ea := (h.2.2.1 a a1 a2).1
  have eb := (h.2.2.1 b b1 b2).1
  have okA := fun k => w.ok a1 a2 k
  have okB := fun k => w.ok b1 b2 k
  have out : ∀ (n i : Nat) (g : Bool), (aRing R a).length - i < n → i ≤ (aRing R a).length → (g = true ↔ ∃ i' j, i' < i ∧ j < (aRing R b).length ∧ ic_meeting (ig_at (aRing R a) i') (ig_at (aRing R a) (i' + 1)) (ig_at (aRing R b) j) (ig_at (aRing R b) (j + 1)) = 2) → wp_Mo_areNext_5 post n a b (bI g) i S := by
    intro n
    induction n with
    | zero => intro i g hm; omega
    | succ n ih =>
      intro i g hm hi hg
      unfold wp_Mo_areNext_5
      rw [Int.toNat_natCast, ea]
      refine ⟨⟨by omega, by omega⟩, by unfold inR; clear hg; omega, by unfold inR; clear hg; omega, fun c => ⟨bI_01 g, ?_⟩, fun c => ⟨(aRing R b).length + 1, ?_⟩⟩
      · have ei : i = (aRing R a).length := by clear hg; omega
        subst ei
        cases g with
        | true => obtain ⟨i', j, q1, q2, q3⟩ := hg.mp rfl; exact p1 ⟨i', j, q1, q2, q3⟩
        | false => exact p0 (fun ⟨i', j, q1, q2, q3⟩ => absurd (hg.mpr ⟨i', j, q1, q2, q3⟩) (by decide))
      · have hi' : i < (aRing R a).length := by clear hg; omega
        have ne := rgn_ne ra.2.2.1 ra.ne i
        have inn : ∀ (m j : Nat) (g : Bool), (aRing R b).length - j < m → j ≤ (aRing R b).length → (g = true ↔ (∃ i' j, i' < i ∧ j < (aRing R b).length ∧ ic_meeting (ig_at (aRing R a) i') (ig_at (aRing R a) (i' + 1)) (ig_at (aRing R b) j) (ig_at (aRing R b) (j + 1)) = 2) ∨ ∃ j', j' < j ∧ ic_meeting (ig_at (aRing R a) i) (ig_at (aRing R a) (i + 1)) (ig_at (aRing R b) j') (ig_at (aRing R b) (j' + 1)) = 2) → wp_Mo_areNext_19 post (wp_Mo_areNext_5 post n) m a b (bI g) i j S := by
          intro m
          induction m with
          | zero => intro j g hm2; omega
          | succ m ih2 =>
            intro j g hm2 hj hg2
            unfold wp_Mo_areNext_19
            rw [Int.toNat_natCast, eb, show (i : Int) + 1 = ((i + 1 : Nat) : Int) by omega, show (j : Int) + 1 = ((j + 1 : Nat) : Int) by omega]
            refine ⟨⟨by omega, by omega⟩, by unfold inR; clear hg hg2; omega, by unfold inR; clear hg hg2; omega, fun c2 => ?_, fun c2 => ?_⟩
            · have ej : j = (aRing R b).length := by clear hg hg2; omega
              subst ej
              refine ih (i + 1) g (by clear hg hg2; omega) (by clear hg hg2; omega) ?_
              rw [hg2]
              constructor
              · rintro (⟨i', j, q1, q2, q3⟩ | ⟨j, q1, q2⟩)
                · exact ⟨i', j, by clear hg hg2; omega, q2, q3⟩
                · exact ⟨i, j, by clear hg hg2; omega, q1, q2⟩
              · rintro ⟨i', j, q1, q2, q3⟩
                by_cases ci : i' = i
                · rw [ci] at q3; exact Or.inr ⟨j, q2, q3⟩
                · exact Or.inl ⟨i', j, by clear hg hg2; omega, q2, q3⟩
            · have hj' : j < (aRing R b).length := by clear hg hg2; omega
              have m2 := ic_meeting2 (okA i) (okA (i + 1)) (okB j) (okB (j + 1)) ne
              have nx : ∀ g' : Bool, (g' = true ↔ g = true ∨ ic_meeting (ig_at (aRing R a) i) (ig_at (aRing R a) (i + 1)) (ig_at (aRing R b) j) (ig_at (aRing R b) (j + 1)) = 2) → wp_Mo_areNext_189 post (wp_Mo_areNext_5 post n) (wp_Mo_areNext_19 post (wp_Mo_areNext_5 post n) m) a b i j (bI g') S := by
                intro g' hg'
                unfold wp_Mo_areNext_189
                rw [show (j : Int) + 1 = ((j + 1 : Nat) : Int) by omega]
                refine ih2 (j + 1) g' (by clear hg hg2 hg'; omega) (by clear hg hg2 hg'; omega) ?_
                rw [hg', hg2]
                constructor
                · rintro ((q | ⟨j', q1, q2⟩) | q)
                  · exact Or.inl q
                  · exact Or.inr ⟨j', by clear hg hg2 hg'; omega, q2⟩
                  · exact Or.inr ⟨j, by clear hg hg2 hg'; omega, q⟩
                · rintro (q | ⟨j', q1, q2⟩)
                  · exact Or.inl (Or.inl q)
                  · by_cases cj : j' = j
                    · rw [cj] at q2; exact Or.inr q2
                    · exact Or.inl (Or.inr ⟨j', by clear hg hg2 hg'; omega, q2⟩)
              have go : ∀ s : Bool, (s = true ↔ ig_turn (ig_at (aRing R a) i) (ig_at (aRing R a) (i + 1)) (ig_at (aRing R b) j) = 0 ∧ ig_turn (ig_at (aRing R a) i) (ig_at (aRing R a) (i + 1)) (ig_at (aRing R b) (j + 1)) = 0) → wp_Mo_areNext_151 post (wp_Mo_areNext_5 post n) (wp_Mo_areNext_19 post (wp_Mo_areNext_5 post n) m) a b (bI g) i j (ig_at (aRing R a) i).1 (ig_at (aRing R a) i).2 (ig_at (aRing R a) (i + 1)).1 (ig_at (aRing R a) (i + 1)).2 (ig_at (aRing R b) j).1 (ig_at (aRing R b) j).2 (ig_at (aRing R b) (j + 1)).1 (ig_at (aRing R b) (j + 1)).2 (bI s) S := by
                intro s hs
                unfold wp_Mo_areNext_151
                refine ⟨bI_in g, fun f => nx true ⟨fun _ => Or.inl (bI_ne.mp f), fun _ => rfl⟩, fun f => ⟨bI_in s, fun f2 => nx false ⟨fun q => absurd q (by decide), fun q => ?_⟩, fun f2 => sp_Mo_overlap (okA i) (okA (i + 1)) (okB j) (okB (j + 1)) ⟨bI_in _, fun f3 => nx false ⟨fun q => absurd q (by decide), fun q => ?_⟩, fun f3 => nx true ⟨fun _ => Or.inr (m2.mpr ⟨(hs.mp (bI_ne.mp f2)).1, (hs.mp (bI_ne.mp f2)).2, bI_ne.mp f3⟩), fun _ => rfl⟩⟩⟩⟩
                · rw [bI_0] at f f2
                  rcases q with q | q
                  · rw [f] at q; exact q
                  · have := m2.mp q
                    rw [hs.mpr ⟨this.1, this.2.1⟩] at f2; exact absurd f2 (by decide)
                · rw [bI_0] at f f3
                  rcases q with q | q
                  · rw [f] at q; exact q
                  · rw [(m2.mp q).2.2] at f3; exact absurd f3 (by decide)
              refine sp_Mo_cornerX h w a1 a2 (by clear hg hg2; omega) (sp_Mo_cornerY h w a1 a2 (by clear hg hg2; omega) (sp_Mo_cornerX h w a1 a2 (by clear hg hg2; omega) (sp_Mo_cornerY h w a1 a2 (by clear hg hg2; omega) (sp_Mo_cornerX h w b1 b2 (by clear hg hg2; omega) (sp_Mo_cornerY h w b1 b2 (by clear hg hg2; omega) (sp_Mo_cornerX h w b1 b2 (by clear hg hg2; omega) (sp_Mo_cornerY h w b1 b2 (by clear hg hg2; omega) (sp_Mo_turn ⟨ok_turn (okA i) (okA (i + 1)) (okB j), fun q => go false ⟨fun f => absurd f (by decide), fun f => absurd f.1 q⟩, fun q => sp_Mo_turn ⟨ok_turn (okA i) (okA (i + 1)) (okB (j + 1)), fun q2 => go false ⟨fun f => absurd f (by decide), fun f => absurd f.2 q2⟩, fun q2 => go true ⟨fun _ => ⟨q, q2⟩, fun _ => rfl⟩⟩⟩))))))))
        refine inn _ 0 g (by clear hg; omega) (by clear hg; omega) ?_
        rw [hg]
        constructor
        · exact Or.inl
        · rintro (q | ⟨j', q1, _⟩)
          · exact q
          · exact absurd q1 (Nat.not_lt_zero _)
  exact ⟨(aRing R a).length + 1, out _ 0 false (by omega) (by omega) ⟨fun f => absurd f (by decide), fun ⟨i', j, q1, _⟩ => absurd q1 (Nat.not_lt_zero _)⟩⟩
theorem sp_Mo_qh {A C : MS → Prop} (hA : ∀ S1 : MS, (inR (S1.1 0) ∧ (S1.1 0 ≤ 0 → post (-1) S1) ∧ (¬ S1.1 0 ≤ 0 → post 0 S1)) → A S1) (h : MD S R) (w : WR R) {a y e : Int} {b : Bool} (ha : inR a) (hy : inR y) (he : inR e) (p1 : ¬ (1 ≤ R.1 7 0 ∧ R.1 2 0 = 0) → post 0 (ms_i S 0 1)) (p2 : 1 ≤ R.1 7 0 → R.1 2 0 = 0 → ¬ (1 ≤ a ∧ a ≤ (R.1 7 0 : Int)) → post 0 (ms_i S 0 2)) (p3 : 1 ≤ R.1 7 0 → R.1 2 0 = 0 → (1 ≤ a ∧ a ≤ (R.1 7 0 : Int)) → ¬ (((0 ≤ y ∧ y ≤ 30000) ∧ 0 ≤ e) ∧ b = true) → post 0 (ms_i S 0 3))
    (pg : 1 ≤ R.1 7 0 → R.1 2 0 = 0 → ∀ l : Nat, a = l → 1 ≤ l → l ≤ R.1 7 0 → ((0 ≤ y ∧ y ≤ 30000) ∧ 0 ≤ e) → b = true → ¬ aB R l y e → post (-1) (ms_i S 0 0)) (p0 : 1 ≤ R.1 7 0 → R.1 2 0 = 0 → ∀ l : Nat, a = l → 1 ≤ l → l ≤ R.1 7 0 → ((0 ≤ y ∧ y ≤ 30000) ∧ 0 ≤ e) → b = true → aB R l y e → C (ms_i S 0 0)) :
    wp_Mo_wrong (fun r_2 S_1 => (∀ S_3 : MS, S_3 = ms_i S_1 0 r_2 → inR (S_3.1 0) ∧ (0 < (S_3.1 0) → A S_3) ∧ (¬ (0 < (S_3.1 0)) → (wp_Mo_isInBeing (fun r_5 S_4 => inR r_5 ∧ (¬ (r_5 = 0) → C S_4) ∧ (r_5 = 0 → A S_4)) a y e S_3)))) a y e (bI b) S := by
  have ex : ∀ v : Int, 0 < v → v ≤ 3 → post 0 (ms_i S 0 v) → ∀ S_3 : MS, S_3 = ms_i S 0 v → inR (S_3.1 0) ∧ (0 < (S_3.1 0) → A S_3) ∧ (¬ (0 < (S_3.1 0)) → (wp_Mo_isInBeing (fun r_5 S_4 => inR r_5 ∧ (¬ (r_5 = 0) → C S_4) ∧ (r_5 = 0 → A S_4)) a y e S_3)) := by
    intro v v0 v3 hp S3 y3
    have z : S3.1 0 = v := by rw [y3]; exact ms_i0 S v
    refine ⟨by rw [z]; unfold inR; omega, fun _ => hA S3 ⟨by rw [z]; unfold inR; omega, fun f => by rw [z] at f; omega, fun _ => by rw [y3]; exact hp⟩, fun f => by rw [z] at f; omega⟩
  refine sp_Mo_wrong h w ha hy he (fun k => ex 1 (by omega) (by omega) (p1 k)) (fun u1 u2 k => ex 2 (by omega) (by omega) (p2 u1 u2 k)) (fun u1 u2 hl k => ex 3 (by omega) (by omega) (p3 u1 u2 hl k)) (fun u1 u2 hl hw hb => ?_)
  intro S3 y3
  have z : S3.1 0 = 0 := by rw [y3]; exact ms_i0 S 0
  have M3 : MD S3 R := by rw [y3]; exact h.fr (mfr_i0 S 0)
  obtain ⟨l, el⟩ : ∃ l : Nat, a = l := ⟨a.toNat, by omega⟩
  refine ⟨by rw [z]; exact inR_lit0, fun f => by rw [z] at f; omega, fun _ => ?_⟩
  have g1 := pg u1 u2 l el (by omega) (by omega) hw hb
  have g0 := p0 u1 u2 l el (by omega) (by omega) hw hb
  rw [el]
  refine sp_Mo_isInBeing M3 w (by omega) (by omega) hy he (fun k => ⟨inR_lit1, fun _ => by rw [y3]; exact g0 k, fun f => absurd f (by decide)⟩) (fun k => ⟨inR_lit0, fun f => absurd rfl f, fun _ => hA S3 ⟨by rw [z]; exact inR_lit0, fun _ => by rw [y3]; exact g1 k, fun f => by rw [z] at f; omega⟩⟩)
theorem sp_Mo_area2 (h : MD S R) (w : WR R) {a y e : Int} (ha : inR a) (hy : inR y) (he : inR e) (p1 : ¬ (1 ≤ R.1 7 0 ∧ R.1 2 0 = 0) → post 0 (ms_i S 0 1)) (p2 : 1 ≤ R.1 7 0 → R.1 2 0 = 0 → ¬ (1 ≤ a ∧ a ≤ (R.1 7 0 : Int)) → post 0 (ms_i S 0 2)) (p3 : 1 ≤ R.1 7 0 → R.1 2 0 = 0 → (1 ≤ a ∧ a ≤ (R.1 7 0 : Int)) → ¬ ((0 ≤ y ∧ y ≤ 30000) ∧ 0 ≤ e) → post 0 (ms_i S 0 3))
    (pg : 1 ≤ R.1 7 0 → R.1 2 0 = 0 → ∀ l : Nat, a = l → 1 ≤ l → l ≤ R.1 7 0 → ((0 ≤ y ∧ y ≤ 30000) ∧ 0 ≤ e) → ¬ aB R l y e → post (-1) (ms_i S 0 0)) (p0 : 1 ≤ R.1 7 0 → R.1 2 0 = 0 → ∀ l : Nat, a = l → 1 ≤ l → l ≤ R.1 7 0 → ((0 ≤ y ∧ y ≤ 30000) ∧ 0 ≤ e) → aB R l y e → post (ig_area (aRing R l)) (ms_i S 0 0)) : wp_Mo_area2 post a y e S := by
  have W := w.1
  unfold wp_Mo_area2
  refine sp_Mo_qh (post := post) (b := true) (A := wp_Mo_area2_29 post) (C := fun S_4 => ∃ n0 : Nat, wp_Mo_area2_48 post n0 a 0 0 S_4) (fun S1 q => q) h w ha hy he p1 p2 (fun u1 u2 hl k => p3 u1 u2 hl (fun f => k ⟨f, rfl⟩)) (fun u1 u2 l el l1 l2 hw _ k => pg u1 u2 l el l1 l2 hw k) (fun u1 u2 l el l1 l2 hw _ k => ?_)
  have M3 : MD (ms_i S 0 0) R := h.fr (mfr_i0 S 0)
  have fin := p0 u1 u2 l el l1 l2 hw k
  have hlen := (M3.2.2.1 l l1 l2).1
  have rg := w.rg l1 l2
  have l60 := rg.2.1
  refine ⟨(aRing R l).length + 1, ?_⟩
  rw [el]
  have lp : ∀ (n k : Nat), (aRing R l).length - k < n → k ≤ (aRing R l).length → wp_Mo_area2_48 post n l (gx_S (fun k => ig_ar (ig_at (aRing R l) k) (ig_at (aRing R l) (k + 1))) k) k (ms_i S 0 0) := by
    intro n
    induction n with
    | zero => intro k hm; omega
    | succ n ih =>
      intro k hm hk
      unfold wp_Mo_area2_48
      rw [Int.toNat_natCast, hlen, show (k : Int) + 1 = ((k + 1 : Nat) : Int) by omega]
      refine ⟨⟨by omega, by omega⟩, by unfold inR; omega, by unfold inR; omega, fun c => ?_, fun c => ?_⟩
      · have ek : k = (aRing R l).length := by omega
        subst ek; exact fin
      · have o1 := w.ok l1 l2 k
        have o2 := w.ok l1 l2 (k + 1)
        refine sp_Mo_cornerX M3 w l1 l2 (by omega) ⟨(ok_in o1).1, sp_Mo_cornerY M3 w l1 l2 (by omega) ⟨(ok_in o2).2, sp_Mo_cornerX M3 w l1 l2 (by omega) ⟨(ok_in o2).1, sp_Mo_cornerY M3 w l1 l2 (by omega) ⟨(ok_in o1).2, fun v ev => ?_⟩⟩⟩⟩
        have := ih (k + 1) (by omega) (by omega)
        have e2 : v = gx_S (fun k => ig_ar (ig_at (aRing R l) k) (ig_at (aRing R l) (k + 1))) (k + 1) := by
          rw [ev]
          show _ = gx_S (fun k => ig_ar (ig_at (aRing R l) k) (ig_at (aRing R l) (k + 1))) k + ig_ar (ig_at (aRing R l) k) (ig_at (aRing R l) (k + 1))
          unfold ig_ar
          omega
        rw [e2]; exact this
  exact lp _ 0 (by omega) (by omega)
theorem sp_Mo_share (h : MD S R) (F : WF R) {a p y e : Int} (ha : inR a) (hpp : inR p) (hy : inR y) (he : inR e) (p1 : ¬ (1 ≤ R.1 7 0 ∧ R.1 2 0 = 0) → post 0 (ms_i S 0 1)) (p2 : 1 ≤ R.1 7 0 → R.1 2 0 = 0 → ¬ (1 ≤ a ∧ a ≤ (R.1 7 0 : Int)) → post 0 (ms_i S 0 2)) (p3 : 1 ≤ R.1 7 0 → R.1 2 0 = 0 → (1 ≤ a ∧ a ≤ (R.1 7 0 : Int)) → ¬ (((0 ≤ y ∧ y ≤ 30000) ∧ 0 ≤ e) ∧ (0 ≤ p ∧ p ≤ 99)) → post 0 (ms_i S 0 3))
    (pg : 1 ≤ R.1 7 0 → R.1 2 0 = 0 → ∀ l : Nat, a = l → 1 ≤ l → l ≤ R.1 7 0 → ((0 ≤ y ∧ y ≤ 30000) ∧ 0 ≤ e) → (0 ≤ p ∧ p ≤ 99) → ¬ aB R l y e → post (-1) (ms_i S 0 0)) (p0 : 1 ≤ R.1 7 0 → R.1 2 0 = 0 → ∀ l : Nat, a = l → 1 ≤ l → l ≤ R.1 7 0 → ((0 ≤ y ∧ y ≤ 30000) ∧ 0 ≤ e) → (0 ≤ p ∧ p ≤ 99) → aB R l y e → post (aShare R l p.toNat y e) (ms_i S 0 0)) : wp_Mo_share post a p y e S := by
  have w := F.r
  unfold wp_Mo_share
  have core : ∀ b : Bool, (b = true ↔ 0 ≤ p ∧ p ≤ 99) → wp_Mo_wrong (fun r_3 S_2 => (∀ S_4 : MS, S_4 = ms_i S_2 0 r_3 → inR (S_4.1 0) ∧ (0 < (S_4.1 0) → wp_Mo_share_34 post S_4) ∧ (¬ (0 < (S_4.1 0)) → (wp_Mo_isInBeing (fun r_6 S_5 => inR r_6 ∧ (¬ (r_6 = 0) → (wp_Mo_shareOf (fun r_8 S_7 => post r_8 S_7) a p y e S_5)) ∧ (r_6 = 0 → wp_Mo_share_34 post S_5)) a y e S_4)))) a y e (bI b) S := by
    intro b hb
    refine sp_Mo_qh (post := post) (A := wp_Mo_share_34 post) (C := fun S_5 => wp_Mo_shareOf (fun r_8 S_7 => post r_8 S_7) a p y e S_5) (fun S1 q => q) h w ha hy he p1 p2 (fun u1 u2 hl k => p3 u1 u2 hl (fun f => k ⟨f.1, hb.mpr f.2⟩)) (fun u1 u2 l el l1 l2 hw q k => pg u1 u2 l el l1 l2 hw (hb.mp q) k) (fun u1 u2 l el l1 l2 hw q k => ?_)
    have M3 : MD (ms_i S 0 0) R := h.fr (mfr_i0 S 0)
    have fin := p0 u1 u2 l el l1 l2 hw (hb.mp q) k
    have pr := hb.mp q
    rw [el, show p = ((p.toNat : Nat) : Int) by omega]
    exact sp_Mo_shareOf M3 w F.sa l1 l2 (by omega) hy he k.1 fin
  exact sp_Mo_isPerson hpp (fun k => core true ⟨fun _ => k, fun _ => rfl⟩) (fun k => core false ⟨fun f => absurd f (by decide), fun f => absurd f k⟩)
noncomputable def fNext (R : AR) (l : Nat) (y e : Int) (l' : Nat) : Bool := pB (l' ≠ l ∧ aB R l' y e ∧ ig_next (aRing R l) (aRing R l'))
noncomputable def fBurd (R : AR) (l : Nat) (y e : Int) (x : Nat) : Bool := pB (aS R x y e ∧ aIh R x l = true)
theorem sp_Mo_next (h : MD S R) (w : WR R) {a i y e : Int} (ha : inR a) (hi : inR i) (hy : inR y) (he : inR e) (p1 : ¬ (1 ≤ R.1 7 0 ∧ R.1 2 0 = 0) → post 0 (ms_i S 0 1)) (p2 : 1 ≤ R.1 7 0 → R.1 2 0 = 0 → ¬ (1 ≤ a ∧ a ≤ (R.1 7 0 : Int)) → post 0 (ms_i S 0 2)) (p3 : 1 ≤ R.1 7 0 → R.1 2 0 = 0 → (1 ≤ a ∧ a ≤ (R.1 7 0 : Int)) → ¬ (((0 ≤ y ∧ y ≤ 30000) ∧ 0 ≤ e) ∧ 0 ≤ i) → post 0 (ms_i S 0 3))
    (pg : 1 ≤ R.1 7 0 → R.1 2 0 = 0 → ∀ l : Nat, a = l → 1 ≤ l → l ≤ R.1 7 0 → ((0 ≤ y ∧ y ≤ 30000) ∧ 0 ≤ e) → 0 ≤ i → ¬ aB R l y e → post (-1) (ms_i S 0 0)) (p0 : 1 ≤ R.1 7 0 → R.1 2 0 = 0 → ∀ l : Nat, a = l → 1 ≤ l → l ≤ R.1 7 0 → ((0 ≤ y ∧ y ≤ 30000) ∧ 0 ≤ e) → 0 ≤ i → aB R l y e → ∀ r, nthOK (fNext R l y e) (R.1 7 0) i r → post (r : Int) (ms_i S 0 0)) : wp_Mo_next post a i y e S := by
  have W := w.1
  have core : ∀ b : Bool, (b = true ↔ 0 ≤ i) → wp_Mo_next_15 post a i y e (bI b) e y a S := by
    intro b hb
    unfold wp_Mo_next_15
    refine sp_Mo_qh (post := post) (A := wp_Mo_next_39 post) (C := fun S_4 => ∃ n0 : Nat, wp_Mo_next_58 post n0 a i y e 0 1 S_4) (fun S1 q => q) h w ha hy he p1 p2 (fun u1 u2 hl k => p3 u1 u2 hl (fun f => k ⟨f.1, hb.mpr f.2⟩)) (fun u1 u2 l el l1 l2 hw q k => pg u1 u2 l el l1 l2 hw (hb.mp q) k) (fun u1 u2 l el l1 l2 hw q k => ?_)
    have M3 : MD (ms_i S 0 0) R := h.fr (mfr_i0 S 0)
    have pp := p0 u1 u2 l el l1 l2 hw (hb.mp q) k
    rw [el]
    have lp : ∀ (n x : Nat), R.1 7 0 + 1 - x < n → 1 ≤ x → x ≤ R.1 7 0 + 1 → (∀ r', 1 ≤ r' → r' < x → fNext R l y e r' = true → ((cntN (fun k => fNext R l y e (k + 1)) (r' - 1) : Nat) : Int) ≠ i) → wp_Mo_next_58 post n l i y e ((cntN (fun k => fNext R l y e (k + 1)) (x - 1) : Nat) : Int) x (ms_i S 0 0) := by
      intro n
      induction n with
      | zero => intro x hm; omega
      | succ n ih =>
        intro x hm x1 x2 I
        have cb := cntN_le (fun k => fNext R l y e (k + 1)) (x - 1)
        have step := cntN_s (f := fNext R l y e) x1
        unfold wp_Mo_next_58
        rw [M3.nl]
        refine ⟨by unfold inR; omega, by unfold inR; omega, fun c2 => pp 0 (nthOK_none (k := x) (by omega) I), fun c2 => ?_⟩
        have xl : x ≤ R.1 7 0 := by omega
        have no : fNext R l y e x = false → wp_Mo_next_107 post (wp_Mo_next_58 post n) l i y e ((cntN (fun k => fNext R l y e (k + 1)) (x - 1) : Nat) : Int) x (ms_i S 0 0) := by
          intro fx
          rw [fx] at step
          have := ih (x + 1) (by omega) (by omega) (by omega) (fun r' a b f => by
            by_cases q : r' = x
            · rw [q, fx] at f; exact absurd f (by decide)
            · exact I r' a (by omega) f)
          rw [show x + 1 - 1 = x by omega, step] at this
          unfold wp_Mo_next_107
          rw [show (x : Int) + 1 = ((x + 1 : Nat) : Int) by omega]
          exact this
        refine ⟨by unfold inR; omega, by unfold inR; omega, fun c3 => no (pB_f.mpr (fun f => f.1 (by omega))), fun c3 => sp_Mo_isInBeing M3 w x1 xl hy he (fun k2 => ⟨inR_lit1, fun f => absurd f (by decide), fun _ => sp_Mo_areNext M3 w l1 l2 x1 xl (fun k3 => ⟨inR_lit1, fun f => absurd f (by decide), fun _ => ?_⟩) (fun k3 => ⟨inR_lit0, fun _ => no (pB_f.mpr (fun f => k3 f.2.2)), fun f => absurd rfl f⟩)⟩) (fun k2 => ⟨inR_lit0, fun _ => no (pB_f.mpr (fun f => k2 f.2.1)), fun f => absurd rfl f⟩)⟩
        have fx : fNext R l y e x = true := pB_iff.mpr ⟨by omega, k2, k3⟩
        refine ⟨by unfold inR; omega, hi, fun c5 => ?_, fun c5 => pp x (Or.inl ⟨x1, xl, fx, c5⟩)⟩
        rw [fx] at step
        have := ih (x + 1) (by omega) (by omega) (by omega) (fun r' a b f => by
          by_cases q : r' = x
          · rw [q]; exact c5
          · exact I r' a (by omega) f)
        rw [show x + 1 - 1 = x by omega, step] at this
        unfold wp_Mo_next_107
        rw [show (x : Int) + 1 = ((x + 1 : Nat) : Int) by omega]
        exact this
    exact ⟨R.1 7 0 + 2, lp _ 1 (by omega) (by omega) (by omega) (fun r' a b => by omega)⟩
  unfold wp_Mo_next
  exact ⟨hi, fun k => core false ⟨fun f => absurd f (by decide), fun f => by omega⟩, fun k => core true ⟨fun _ => by omega, fun _ => rfl⟩⟩
theorem sp_Mo_burden (h : MD S R) (F : WF R) {a i y e : Int} (ha : inR a) (hi : inR i) (hy : inR y) (he : inR e) (p1 : ¬ (1 ≤ R.1 7 0 ∧ R.1 2 0 = 0) → post 0 (ms_i S 0 1)) (p2 : 1 ≤ R.1 7 0 → R.1 2 0 = 0 → ¬ (1 ≤ a ∧ a ≤ (R.1 7 0 : Int)) → post 0 (ms_i S 0 2)) (p3 : 1 ≤ R.1 7 0 → R.1 2 0 = 0 → (1 ≤ a ∧ a ≤ (R.1 7 0 : Int)) → ¬ (((0 ≤ y ∧ y ≤ 30000) ∧ 0 ≤ e) ∧ 0 ≤ i) → post 0 (ms_i S 0 3))
    (pg : 1 ≤ R.1 7 0 → R.1 2 0 = 0 → ∀ l : Nat, a = l → 1 ≤ l → l ≤ R.1 7 0 → ((0 ≤ y ∧ y ≤ 30000) ∧ 0 ≤ e) → 0 ≤ i → ¬ aB R l y e → post (-1) (ms_i S 0 0)) (p0 : 1 ≤ R.1 7 0 → R.1 2 0 = 0 → ∀ l : Nat, a = l → 1 ≤ l → l ≤ R.1 7 0 → ((0 ≤ y ∧ y ≤ 30000) ∧ 0 ≤ e) → 0 ≤ i → aB R l y e → ∀ r S', mfz (ms_i S 0 0) S' → nthOK (fBurd R l y e) (R.1 25 0) i r → post (r : Int) S') : wp_Mo_burden post a i y e S := by
  have w := F.r
  have W := w.1
  have core : ∀ b : Bool, (b = true ↔ 0 ≤ i) → wp_Mo_burden_15 post a i y e (bI b) e y a S := by
    intro b hb
    unfold wp_Mo_burden_15
    refine sp_Mo_qh (post := post) (A := wp_Mo_burden_39 post) (C := fun S_4 => ∃ n0 : Nat, wp_Mo_burden_58 post n0 a i y e 0 1 S_4) (fun S1 q => q) h w ha hy he p1 p2 (fun u1 u2 hl k => p3 u1 u2 hl (fun f => k ⟨f.1, hb.mpr f.2⟩)) (fun u1 u2 l el l1 l2 hw q k => pg u1 u2 l el l1 l2 hw (hb.mp q) k) (fun u1 u2 l el l1 l2 hw q k => ?_)
    have M3 : MD (ms_i S 0 0) R := h.fr (mfr_i0 S 0)
    have pp := p0 u1 u2 l el l1 l2 hw (hb.mp q) k
    rw [el]
    have lp : ∀ (n x : Nat) (S1 : MS), mfz (ms_i S 0 0) S1 → R.1 25 0 + 1 - x < n → 1 ≤ x → x ≤ R.1 25 0 + 1 → (∀ r', 1 ≤ r' → r' < x → fBurd R l y e r' = true → ((cntN (fun k => fBurd R l y e (k + 1)) (r' - 1) : Nat) : Int) ≠ i) → wp_Mo_burden_58 post n l i y e ((cntN (fun k => fBurd R l y e (k + 1)) (x - 1) : Nat) : Int) x S1 := by
      intro n
      induction n with
      | zero => intro x S1 g1 hm; omega
      | succ n ih =>
        intro x S1 g1 hm x1 x2 I
        have M1 := M3.fz g1
        have cb := cntN_le (fun k => fBurd R l y e (k + 1)) (x - 1)
        have step := cntN_s (f := fBurd R l y e) x1
        unfold wp_Mo_burden_58
        rw [M1.ne]
        refine ⟨by unfold inR; omega, by unfold inR; omega, fun c2 => pp 0 S1 g1 (nthOK_none (k := x) (by omega) I), fun c2 => ?_⟩
        have xl : x ≤ R.1 25 0 := by omega
        refine sz_Mo_burdens M1 w F.i x1 xl l1 l2 hy he (fun S2 g2 k2 => ⟨inR_lit1, fun f => absurd f (by decide), fun _ => ?_⟩) (fun S2 g2 k2 => ⟨inR_lit0, fun _ => ?_, fun f => absurd rfl f⟩)
        · have fx : fBurd R l y e x = true := pB_iff.mpr ⟨k2.2.1, k2.1⟩
          refine ⟨by unfold inR; omega, hi, fun c5 => ?_, fun c5 => pp x S2 (mfz_trans g1 g2) (Or.inl ⟨x1, xl, fx, c5⟩)⟩
          rw [fx] at step
          have := ih (x + 1) S2 (mfz_trans g1 g2) (by omega) (by omega) (by omega) (fun r' a b f => by
            by_cases q : r' = x
            · rw [q]; exact c5
            · exact I r' a (by omega) f)
          rw [show x + 1 - 1 = x by omega, step] at this
          unfold wp_Mo_burden_92
          rw [show (x : Int) + 1 = ((x + 1 : Nat) : Int) by omega]
          exact this
        · have fx : fBurd R l y e x = false := pB_f.mpr (fun f => k2 ⟨f.2, f.1, k⟩)
          rw [fx] at step
          have := ih (x + 1) S2 (mfz_trans g1 g2) (by omega) (by omega) (by omega) (fun r' a b f => by
            by_cases q : r' = x
            · rw [q, fx] at f; exact absurd f (by decide)
            · exact I r' a (by omega) f)
          rw [show x + 1 - 1 = x by omega, step] at this
          unfold wp_Mo_burden_92
          rw [show (x : Int) + 1 = ((x + 1 : Nat) : Int) by omega]
          exact this
    exact ⟨R.1 25 0 + 2, lp _ 1 _ (mfz_refl _) (by omega) (by omega) (by omega) (fun r' a b => by omega)⟩
  unfold wp_Mo_burden
  exact ⟨hi, fun k => core false ⟨fun f => absurd f (by decide), fun f => by omega⟩, fun k => core true ⟨fun _ => by omega, fun _ => rfl⟩⟩
noncomputable def fAt (R : AR) (p : PT) (y e : Int) (l : Nat) : Bool := pB (aB R l y e ∧ (igd_onR (aRing R l) (ig_add p p) ∨ igd_in (aRing R l) (ig_add p p)))
/-- the first of those that f says -/
def fstOK (f : Nat → Bool) (n r : Nat) : Prop := (1 ≤ r ∧ r ≤ n ∧ f r = true ∧ ∀ r', 1 ≤ r' → r' < r → f r' = false) ∨ (r = 0 ∧ ∀ r', 1 ≤ r' → r' ≤ n → f r' = false)
theorem fstOK_uniq {f : Nat → Bool} {n r r' : Nat} (h : fstOK f n r) (g : fstOK f n r') : r = r' := by
  rcases h with ⟨h1, h2, h3, h4⟩ | ⟨h1, h2⟩
  · rcases g with ⟨g1, g2, g3, g4⟩ | ⟨g1, g2⟩
    · by_cases c : r < r'
      · rw [g4 r h1 c] at h3; exact absurd h3 (by decide)
      · by_cases d : r' < r
        · rw [h4 r' g1 d] at g3; exact absurd g3 (by decide)
        · omega
    · rw [g2 r h1 h2] at h3; exact absurd h3 (by decide)
  · rcases g with ⟨g1, g2, g3, g4⟩ | ⟨g1, g2⟩
    · rw [h2 r' g1 g2] at g3; exact absurd g3 (by decide)
    · omega
theorem sp_Mo_lotAt (h : MD S R) (w : WR R) {x z y e : Int} (hx : inR x) (hz : inR z) (hy : inR y) (he : inR e) (p1 : ¬ (1 ≤ R.1 7 0 ∧ R.1 2 0 = 0) → post 0 (ms_i S 0 1)) (p2 : 1 ≤ R.1 7 0 → R.1 2 0 = 0 → ¬ (ig_ok (x, z) ∧ ((0 ≤ y ∧ y ≤ 30000) ∧ 0 ≤ e)) → post 0 (ms_i S 0 2)) (p0 : 1 ≤ R.1 7 0 → R.1 2 0 = 0 → ig_ok (x, z) → ((0 ≤ y ∧ y ≤ 30000) ∧ 0 ≤ e) → ∀ r, fstOK (fAt R (x, z) y e) (R.1 7 0) r → post (r : Int) (ms_i S 0 0)) : wp_Mo_lotAt post x z y e S := by
  have W := w.1
  have ex : ∀ v : Int, v = 1 ∨ v = 2 → post 0 (ms_i S 0 v) → wp_Mo_lotAt_34 post x z y e v S := by
    intro v hv hp S1 y1
    refine ⟨1, ?_⟩
    have M1 : MD S1 R := by rw [y1]; exact h.fr (mfr_i0 S v)
    have e0 : S1.1 0 = v := by rw [y1]; exact ms_i0 S v
    unfold wp_Mo_lotAt_40
    rw [M1.nl, e0]
    refine ⟨inR_lit1, by unfold inR; omega, fun _ => by rw [y1]; exact hp, fun _ => ⟨by unfold inR; omega, fun _ => by rw [y1]; exact hp, fun f => by omega⟩⟩
  unfold wp_Mo_lotAt
  refine sp_Mo_isUp h w (fun u1 u2 => ⟨inR_lit1, fun _ => sp_Mo_isPoint hx hz (fun k1 => ⟨inR_lit1, fun f => absurd f (by decide), fun _ => sp_Mo_isWhen hy he (fun k2 => ⟨inR_lit1, fun _ => ?_, fun f => absurd f (by decide)⟩) (fun k2 => ⟨inR_lit0, fun f => absurd rfl f, fun _ => ex 2 (Or.inr rfl) (p2 u1 u2 (fun f => k2 f.2))⟩)⟩) (fun k1 => ⟨inR_lit0, fun _ => ex 2 (Or.inr rfl) (p2 u1 u2 (fun f => k1 f.1)), fun f => absurd rfl f⟩), fun f => absurd f (by decide)⟩) (fun k => ⟨inR_lit0, fun f => absurd rfl f, fun _ => ex 1 (Or.inl rfl) (p1 k)⟩)
  intro S1 y1
  have M1 : MD S1 R := by rw [y1]; exact h.fr (mfr_i0 S 0)
  have e0 : S1.1 0 = 0 := by rw [y1]; exact ms_i0 S 0
  have pp := p0 u1 u2 k1 k2
  rw [← y1] at pp
  have ad := ok_add k1 k1
  have lp : ∀ (n l : Nat), R.1 7 0 + 1 - l < n → 1 ≤ l → l ≤ R.1 7 0 + 1 → (∀ r', 1 ≤ r' → r' < l → fAt R (x, z) y e r' = false) → wp_Mo_lotAt_40 post n x z y e l S1 := by
    intro n
    induction n with
    | zero => intro l hm; omega
    | succ n ih =>
      intro l hm l1 l2 I
      unfold wp_Mo_lotAt_40
      rw [M1.nl, e0]
      refine ⟨by unfold inR; omega, by unfold inR; omega, fun c => pp 0 (Or.inr ⟨rfl, fun r' a b => I r' a (by omega)⟩), fun c => ⟨inR_lit0, fun f => absurd rfl f, fun _ => ?_⟩⟩
      have ll : l ≤ R.1 7 0 := by omega
      have rg := w.rg l1 ll
      have no : fAt R (x, z) y e l = false → wp_Mo_lotAt_97 post (wp_Mo_lotAt_40 post n) x z y e l S1 := by
        intro fx
        unfold wp_Mo_lotAt_97
        rw [show (l : Int) + 1 = ((l + 1 : Nat) : Int) by omega]
        refine ih (l + 1) (by omega) (by omega) (by omega) (fun r' a b => ?_)
        by_cases q : r' = l
        · rw [q]; exact fx
        · exact I r' a (by omega)
      have yes : fAt R (x, z) y e l = true → post (l : Int) S1 := fun fx => pp l (Or.inl ⟨l1, ll, fx, I⟩)
      have on2 : igd_onR (aRing R l) (ig_add (x, z) (x, z)) ↔ ∃ i, i < (aRing R l).length ∧ im_on (ig_at (aRing R l) i) (ig_at (aRing R l) (i + 1)) (x, z) = true := by
        rw [ig_add_self]
        exact ⟨fun ⟨i, q1, q2⟩ => ⟨i, q1, (igd_on2 _ _ _).mp q2⟩, fun ⟨i, q1, q2⟩ => ⟨i, q1, (igd_on2 _ _ _).mpr q2⟩⟩
      refine sp_Mo_isInBeing M1 w l1 ll hy he (fun k3 => ⟨inR_lit1, fun f => absurd f (by decide), fun _ => sp_Mo_sideOf (p := (x, z)) M1 w l1 ll k1 (fun i hi hh => ⟨by have := rg.2.1.2; unfold inR; omega, fun _ => yes (pB_iff.mpr ⟨k3, Or.inl (on2.mpr ⟨i, hi, hh.1⟩)⟩), fun f => by omega⟩) (fun hh => ⟨by unfold inR; omega, fun f => by omega, fun _ => ?_⟩)⟩) (fun k3 => ⟨inR_lit0, fun _ => no (pB_f.mpr (fun f => k3 f.1)), fun f => absurd rfl f⟩)
      have notOn : ¬ igd_onR (aRing R l) (ig_add (x, z) (x, z)) := fun f => by
        obtain ⟨i, q1, q2⟩ := ig_half_on rg.2.2.1 (on2.mp f)
        exact hh i q1 q2
      have := sp_Mo_isWithin (post := fun r_6 S_5 => inR r_6 ∧ (r_6 = 0 → wp_Mo_lotAt_97 post (wp_Mo_lotAt_40 post n) x z y e l S_5) ∧ (¬ (r_6 = 0) → post (l : Int) S_5)) (z := ig_add (x, z) (x, z)) M1 w l1 ll ad (fun k4 => ⟨inR_lit1, fun f => absurd f (by decide), fun _ => yes (pB_iff.mpr ⟨k3, Or.inr k4⟩)⟩) (fun k4 => ⟨inR_lit0, fun _ => no (pB_f.mpr (fun f => f.2.elim notOn k4)), fun f => absurd rfl f⟩)
      rw [ig_add_self] at this
      exact this
  exact ⟨R.1 7 0 + 2, lp _ 1 (by omega) (by omega) (by omega) (fun r' a b => by omega)⟩
end OPD
