/-! the reference: small statics; isSimple of the row -/
theorem sp_Mo_isPoint {post : Int → Prop} {x y : Int} (hx : inR x) (hy : inR y) (p1 : ig_ok (x, y) → post 1) (p0 : ¬ ig_ok (x, y) → post 0) : wp_Mo_isPoint post x y := by
  unfold ig_ok at p1 p0
  exact ⟨hx, fun c => p0 (by show ¬ (0 ≤ x ∧ x ≤ 20000 ∧ 0 ≤ y ∧ y ≤ 20000); omega), fun c => ⟨hx, fun c1 => p0 (by show ¬ (0 ≤ x ∧ x ≤ 20000 ∧ 0 ≤ y ∧ y ≤ 20000); omega), fun c1 => ⟨hy, fun c2 => p0 (by show ¬ (0 ≤ x ∧ x ≤ 20000 ∧ 0 ≤ y ∧ y ≤ 20000); omega), fun c2 => ⟨hy, fun c3 => p0 (by show ¬ (0 ≤ x ∧ x ≤ 20000 ∧ 0 ≤ y ∧ y ≤ 20000); omega), fun c3 => p1 (by show (0 ≤ x ∧ x ≤ 20000 ∧ 0 ≤ y ∧ y ≤ 20000); omega)⟩⟩⟩⟩
theorem sp_Mo_isDay {post : Int → Prop} {x : Int} (hx : inR x) (p1 : 0 ≤ x ∧ x ≤ 30000 → post 1) (p0 : ¬ (0 ≤ x ∧ x ≤ 30000) → post 0) : wp_Mo_isDay post x :=
  ⟨hx, fun c => p0 (by omega), fun c => ⟨hx, fun c1 => p0 (by omega), fun c1 => p1 (by omega)⟩⟩
theorem sp_Mo_isPerson {post : Int → Prop} {x : Int} (hx : inR x) (p1 : 0 ≤ x ∧ x ≤ 99 → post 1) (p0 : ¬ (0 ≤ x ∧ x ≤ 99) → post 0) : wp_Mo_isPerson post x :=
  ⟨hx, fun c => p0 (by omega), fun c => ⟨hx, fun c1 => p0 (by omega), fun c1 => p1 (by omega)⟩⟩
theorem sp_Mo_isWhen {post : Int → Prop} {x y : Int} (hx : inR x) (hy : inR y) (p1 : (0 ≤ x ∧ x ≤ 30000) ∧ 0 ≤ y → post 1) (p0 : ¬ ((0 ≤ x ∧ x ≤ 30000) ∧ 0 ≤ y) → post 0) : wp_Mo_isWhen post x y :=
  sp_Mo_isDay hx (fun f => ⟨inR_lit1, fun g => absurd g (by decide), fun _ => ⟨hy, fun c => p0 (by omega), fun c => p1 (by omega)⟩⟩) (fun f => ⟨inR_lit0, fun _ => p0 (fun g => f g.1), fun g => absurd rfl g⟩)
def ig_d2 (a b : PT) : Int := (b.1 - a.1) * (b.1 - a.1) + (b.2 - a.2) * (b.2 - a.2)
theorem sp_Mo_apart {post : Int → Prop} {a b : PT} (ha : ig_ok a) (hb : ig_ok b) (h : post (ig_d2 a b)) : wp_Mo_apart post a.1 a.2 b.1 b.2 := by
  have d := ok_d ha hb
  exact ⟨by unfold inR; omega, by unfold inR; omega, by unfold inR; omega, by unfold inR; omega, h⟩
theorem ig_d2_bd {a b : PT} (ha : ig_ok a) (hb : ig_ok b) : 0 ≤ ig_d2 a b ∧ ig_d2 a b ≤ 800000000 := by
  have d := ok_d ha hb
  have m1 := pb_mul d.1 d.1
  have m2 := pb_mul d.2 d.2
  have n1 : 0 ≤ (b.1 - a.1) * (b.1 - a.1) := by
    rcases Int.le_total 0 (b.1 - a.1) with c | c
    · exact Int.mul_nonneg c c
    · have := Int.mul_nonneg (show 0 ≤ -(b.1 - a.1) by omega) (show 0 ≤ -(b.1 - a.1) by omega)
      rw [Int.neg_mul_neg] at this; exact this
  have n2 : 0 ≤ (b.2 - a.2) * (b.2 - a.2) := by
    rcases Int.le_total 0 (b.2 - a.2) with c | c
    · exact Int.mul_nonneg c c
    · have := Int.mul_nonneg (show 0 ≤ -(b.2 - a.2) by omega) (show 0 ≤ -(b.2 - a.2) by omega)
      rw [Int.neg_mul_neg] at this; exact this
  unfold ig_d2
  omega
theorem sp_Mo_overlap62 {post : Int → Prop} {a b p q : Int} (ha : inR a) (hb : inR b) (hp : inR p) (hq : inR q) (h : post (bI (decide (max (min a b) (min p q) < min (max a b) (max p q))))) : wp_Mo_overlap_62 post a b p q := by
  unfold wp_Mo_overlap_62
  unfold inR at ha hb hp hq
  refine sp_Mo_least ha hb (sp_Mo_least hp hq (sp_Mo_most (by unfold inR; omega) (by unfold inR; omega) (sp_Mo_most ha hb (sp_Mo_most hp hq (sp_Mo_least (by unfold inR; omega) (by unfold inR; omega) ⟨by unfold inR; omega, by unfold inR; omega, fun c => ?_, fun c => ?_⟩)))))
  · rw [decide_eq_false (by omega)] at h; exact h
  · rw [decide_eq_true (by omega)] at h; exact h
theorem sp_Mo_overlap {post : Int → Prop} {a b p q : PT} (ha : ig_ok a) (hb : ig_ok b) (hp : ig_ok p) (hq : ig_ok q) (h : post (bI (im_over a b p q))) : wp_Mo_overlap post a.1 a.2 b.1 b.2 p.1 p.2 q.1 q.2 := by
  have ia := ok_in ha
  have ib := ok_in hb
  have ip := ok_in hp
  have iq := ok_in hq
  unfold im_over at h
  unfold wp_Mo_overlap
  refine ⟨ia.1, ib.1, fun c => ?_, fun c => ?_⟩
  · rw [if_neg (by simpa using c)] at h
    exact ⟨inR_lit0, fun _ => ⟨inR_lit0, fun _ => ⟨inR_lit0, fun _ => ⟨inR_lit0, fun _ => sp_Mo_overlap62 ia.2 ib.2 ip.2 iq.2 h, fun f => absurd rfl f⟩, fun f => absurd rfl f⟩, fun f => absurd rfl f⟩, fun f => absurd rfl f⟩
  · rw [if_pos c] at h
    exact ⟨inR_lit1, fun f => absurd f (by decide), fun _ => ⟨inR_lit1, fun f => absurd f (by decide), fun _ => ⟨inR_lit1, fun f => absurd f (by decide), fun _ => ⟨inR_lit1, fun f => absurd f (by decide), fun _ => sp_Mo_overlap62 ia.1 ib.1 ip.1 iq.1 h⟩⟩⟩⟩
section SMP
variable {S : MS} {K : List PT}
theorem marr.at {nf fx fy cap : Nat} (h : marr S nf fx fy cap K) (h0 : K ≠ []) (k : Nat) : S.2 fx (k % K.length) = (ig_at K k).1 ∧ S.2 fy (k % K.length) = (ig_at K k).2 := by
  have hk : k % K.length < K.length := Nat.mod_lt _ (List.length_pos_iff.mpr h0)
  have := h.2.2 _ hk
  rw [ig_at_mod] at this
  exact this
def im_pr (K : List PT) (i j : Nat) : Prop := ((i + 1) % K.length = j → im_fold (ig_at K (i + 1)) (ig_at K i) (ig_at K (j + 1)) = false) ∧ ((j + 1) % K.length = i → im_fold (ig_at K i) (ig_at K (i + 1)) (ig_at K j) = false) ∧ ((i + 1) % K.length ≠ j → (j + 1) % K.length ≠ i → im_meet (ig_at K i) (ig_at K (i + 1)) (ig_at K j) (ig_at K (j + 1)) = false)
theorem sp_msim_pair {post : Int → MS → Prop} {k92 : Int → Int → Int → Int → MS → Prop} {k109 : Int → Int → Int → Int → Int → MS → Prop} (h : marr S 4 5 6 32 K) (h0 : K ≠ []) (hok : ∀ p ∈ K, ig_ok p) {N i j : Nat} (hi : i < K.length) (hj : j < K.length) (hij : i ≠ j)
    (p1 : im_pr K i j → k109 K.length N 1 i ((j : Int) + 1) S) (p0 : ¬ im_pr K i j → k109 K.length N 0 i ((j : Int) + 1) S) {b : Bool} (hb : b = true ↔ (i + 1) % K.length = j) :
    wp_Mo_isSimple_148 post k92 k109 K.length N 1 i j (((i + 1) % K.length : Nat) : Int) (((j + 1) % K.length : Nat) : Int) (bI b) S := by
  have ok := ig_at_ok hok h0
  have hn : 0 < K.length := List.length_pos_iff.mpr h0
  have hc := h.2.1
  have m1 : (i + 1) % K.length < K.length := Nat.mod_lt _ hn
  have m2 : (j + 1) % K.length < K.length := Nat.mod_lt _ hn
  have ai := h.at h0 i
  have aj := h.at h0 j
  have ai1 := h.at h0 (i + 1)
  have aj1 := h.at h0 (j + 1)
  rw [Nat.mod_eq_of_lt hi] at ai
  rw [Nat.mod_eq_of_lt hj] at aj
  have fin : ∀ g : Bool, (g = true ↔ im_pr K i j) → wp_Mo_isSimple_368 post k92 k109 K.length N (bI g) i j S := by
    intro g hg
    unfold wp_Mo_isSimple_368
    cases g with
    | true => exact p1 (hg.mp rfl)
    | false => exact p0 (fun f => absurd (hg.mpr f) (by decide))
  have ix : ∀ x : Nat, x < K.length → ixR (x : Int) 32 := fun x hx => ⟨by omega, by omega⟩
  have key : ∀ g b c : Bool, (b = true ↔ (i + 1) % K.length = j) → (c = true ↔ (j + 1) % K.length = i) → (g = true ↔ (b = true → im_fold (ig_at K (i + 1)) (ig_at K i) (ig_at K (j + 1)) = false)) → wp_Mo_isSimple_224 post k92 k109 K.length N (bI g) i j (((i + 1) % K.length : Nat) : Int) (((j + 1) % K.length : Nat) : Int) (bI b) (bI c) S := by
    intro g b c hb hc hg
    have k289 : ∀ g' : Bool, (g' = true ↔ (b = true → im_fold (ig_at K (i + 1)) (ig_at K i) (ig_at K (j + 1)) = false) ∧ (c = true → im_fold (ig_at K i) (ig_at K (i + 1)) (ig_at K j) = false)) → wp_Mo_isSimple_289 post k92 k109 K.length N (bI g') i j (((i + 1) % K.length : Nat) : Int) (((j + 1) % K.length : Nat) : Int) (bI b) (bI c) S := by
      intro g' hg'
      unfold wp_Mo_isSimple_289
      simp only [Int.toNat_natCast]
      rw [ai.1, ai.2, aj.1, aj.2, ai1.1, ai1.2, aj1.1, aj1.2]
      refine ⟨bI_in _, fun c1 => fin g' ?_, fun c1 => ⟨bI_in _, fun c2 => fin g' ?_, fun c2 => ⟨ix i hi, ix i hi, ix _ m1, ix _ m1, ix j hj, ix j hj, ix _ m2, ix _ m2, sp_Mo_meet (ok _) (ok _) (ok _) (ok _) ⟨bI_in _, fun c3 => ?_, fun c3 => ?_⟩⟩⟩⟩
      · rw [hg', hb, hc]; unfold im_pr
        have := hb.mp (bI_ne.mp c1)
        exact ⟨fun f => ⟨f.1, f.2, fun g => absurd this g⟩, fun f => ⟨f.1, f.2.1⟩⟩
      · rw [hg', hb, hc]; unfold im_pr
        have := hc.mp (bI_ne.mp c2)
        exact ⟨fun f => ⟨f.1, f.2, fun _ g => absurd this g⟩, fun f => ⟨f.1, f.2.1⟩⟩
      · unfold wp_Mo_isSimple_366
        refine fin false ⟨fun f => absurd f (by decide), fun f => ?_⟩
        have := f.2.2 (fun q => by rw [bI_0.mp c1] at hb; exact absurd (hb.mpr q) (by decide)) (fun q => by rw [bI_0.mp c2] at hc; exact absurd (hc.mpr q) (by decide))
        rw [bI_ne.mp c3] at this; cases this
      · unfold wp_Mo_isSimple_366
        refine fin true ⟨fun _ => ⟨fun q => ?_, fun q => ?_, fun _ _ => bI_0.mp c3⟩, fun _ => rfl⟩
        · rw [bI_0.mp c1] at hb; exact absurd (hb.mpr q) (by decide)
        · rw [bI_0.mp c2] at hc; exact absurd (hc.mpr q) (by decide)
    unfold wp_Mo_isSimple_224
    simp only [Int.toNat_natCast]
    rw [ai.1, ai.2, aj.1, aj.2, ai1.1, ai1.2]
    refine ⟨bI_in _, fun c1 => k289 g ?_, fun c1 => ⟨bI_in _, fun c2 => ?_, fun c2 => ⟨ix i hi, ix i hi, ix _ m1, ix _ m1, ix j hj, ix j hj, sp_Mo_isFolded (ok _) (ok _) (ok _) ⟨bI_in _, fun c3 => ?_, fun c3 => ?_⟩⟩⟩⟩
    · rw [hg, bI_0.mp c1]; exact ⟨fun f => ⟨f, fun q => absurd q (by decide)⟩, fun f => f.1⟩
    · unfold wp_Mo_isSimple_287
      refine k289 false ⟨fun f => absurd f (by decide), fun f => ?_⟩
      rw [bI_0.mp c2] at hg; exact absurd (hg.mpr f.1) (by decide)
    · unfold wp_Mo_isSimple_287
      refine k289 false ⟨fun f => absurd f (by decide), fun f => ?_⟩
      have := f.2 (bI_ne.mp c1)
      rw [bI_ne.mp c3] at this; cases this
    · unfold wp_Mo_isSimple_287
      exact k289 true ⟨fun _ => ⟨hg.mp (bI_ne.mp c2), fun _ => bI_0.mp c3⟩, fun _ => rfl⟩
  have k162 : ∀ c : Bool, (c = true ↔ (j + 1) % K.length = i) → wp_Mo_isSimple_162 post k92 k109 K.length N 1 i j (((i + 1) % K.length : Nat) : Int) (((j + 1) % K.length : Nat) : Int) (bI b) (bI c) S := by
    intro c hc
    unfold wp_Mo_isSimple_162
    simp only [Int.toNat_natCast]
    rw [ai.1, ai.2, ai1.1, ai1.2, aj1.1, aj1.2]
    refine ⟨bI_in _, fun c1 => key true b c hb hc ⟨fun _ q => absurd (q.symm.trans (bI_0.mp c1)) (by decide), fun _ => rfl⟩, fun c1 => ⟨ix _ m1, ix _ m1, ix i hi, ix i hi, ix _ m2, ix _ m2, sp_Mo_isFolded (ok _) (ok _) (ok _) ⟨bI_in _, fun c3 => ?_, fun c3 => ?_⟩⟩⟩
    · unfold wp_Mo_isSimple_222
      refine key false b c hb hc ⟨fun f => absurd f (by decide), fun f => ?_⟩
      have := f (bI_ne.mp c1)
      rw [bI_ne.mp c3] at this; cases this
    · unfold wp_Mo_isSimple_222
      exact key true b c hb hc ⟨fun _ _ => bI_0.mp c3, fun _ => rfl⟩
  unfold wp_Mo_isSimple_148
  exact ⟨by unfold inR; omega, by unfold inR; omega, fun c => k162 false ⟨fun f => absurd f (by decide), fun f => absurd (by rw [f]) c⟩, fun c => k162 true ⟨fun _ => by omega, fun _ => rfl⟩⟩
theorem sp_Mo_isSimple {post : Int → MS → Prop} (h : marr S 4 5 6 32 K) (h0 : K ≠ []) (hok : ∀ p ∈ K, ig_ok p) (cl : Bool) (p1 : im_simple K cl → post 1 S) (p0 : ¬ im_simple K cl → post 0 S) : wp_Mo_isSimple post (bI cl) S := by
  have ok := ig_at_ok hok h0
  have hn : 0 < K.length := List.length_pos_iff.mpr h0
  have hc := h.2.1
  have main : ∀ N : Nat, N = (if cl then K.length else K.length - 1) → wp_Mo_isSimple_16 post K.length N S := by
    intro N hN
    have hNn : N ≤ K.length := by rw [hN]; split <;> omega
    have him : im_simple K cl ↔ (∀ i, i < N → ig_at K i ≠ ig_at K (i + 1)) ∧ ∀ i j, i < j → j < N → im_pr K i j := by
      unfold im_simple im_pr; rw [← hN]
    -- inner
    have l109 : ∀ (k92 : Int → Int → Int → Int → MS → Prop) (i : Nat), i < N → ((∀ j, i < j → j < N → im_pr K i j) → k92 K.length N 1 ((i : Int) + 1) S) → (¬ (∀ j, i < j → j < N → im_pr K i j) → k92 K.length N 0 ((i : Int) + 1) S) → ∀ (n j : Nat) (g : Bool), N + 1 - j < n → i < j → j ≤ N → (g = true ↔ ∀ j', i < j' → j' < j → im_pr K i j') → wp_Mo_isSimple_109 post k92 n K.length N (bI g) i j S := by
      intro k92 i hi q1 q0 n
      induction n with
      | zero => intro j g hn; omega
      | succ n ih =>
        intro j g hn hij hjN hg
        unfold wp_Mo_isSimple_109
        have e2 : (j : Int) + 1 = ((j + 1 : Nat) : Int) := by omega
        refine ⟨by unfold inR; omega, by unfold inR; omega, fun c => ?_, fun c => ⟨bI_in _, fun c1 => ?_, fun c1 => ⟨⟨by omega, by omega⟩, fun v7 e7 => ⟨⟨by omega, by omega⟩, fun v8 e8 => ?_⟩⟩⟩⟩
        · have ej : j = N := by omega
          subst ej
          unfold wp_Mo_isSimple_374
          cases g with
          | true => exact q1 (hg.mp rfl)
          | false => exact q0 (fun f => absurd (hg.mpr f) (by decide))
        · unfold wp_Mo_isSimple_374
          rw [bI_0.mp c1] at hg ⊢
          exact q0 (fun f => absurd (hg.mpr (fun j' a b => f j' a (by omega))) (by decide))
        · have hg1 := bI_ne.mp c1
          subst hg1
          have e7' : v7 = (((i + 1) % K.length : Nat) : Int) := by rw [e7]; rfl
          have e8' : v8 = (((j + 1) % K.length : Nat) : Int) := by rw [e8]; rfl
          rw [e7', e8']
          have m1 : (i + 1) % K.length < K.length := Nat.mod_lt _ (by omega)
          have step : ∀ b : Bool, (b = true ↔ (i + 1) % K.length = j) → wp_Mo_isSimple_148 post k92 (wp_Mo_isSimple_109 post k92 n) K.length N 1 i j (((i + 1) % K.length : Nat) : Int) (((j + 1) % K.length : Nat) : Int) (bI b) S := by
            intro b hb
            refine sp_msim_pair h h0 hok (by omega) (by omega) (by omega) (fun f => ?_) (fun f => ?_) hb
            · rw [e2]
              refine ih (j + 1) true (by omega) (by omega) (by omega) ⟨fun _ j' a b => ?_, fun _ => rfl⟩
              by_cases cj : j' = j
              · rw [cj]; exact f
              · exact hg.mp rfl j' a (by omega)
            · rw [e2]
              refine ih (j + 1) false (by omega) (by omega) (by omega) ⟨fun f => absurd f (by decide), fun g => absurd (g j hij (by omega)) f⟩
          exact ⟨by unfold inR; omega, by unfold inR; omega, fun c3 => step false ⟨fun f => absurd f (by decide), fun f => absurd (by rw [f]) c3⟩, fun c3 => step true ⟨fun _ => by omega, fun _ => rfl⟩⟩
    have l92 : ∀ (n i : Nat) (g : Bool), N + 1 - i < n → i ≤ N → (∀ i, i < N → ig_at K i ≠ ig_at K (i + 1)) → (g = true ↔ ∀ i' j, i' < i → i' < j → j < N → im_pr K i' j) → wp_Mo_isSimple_92 post n K.length N (bI g) i S := by
      intro n
      induction n with
      | zero => intro i g hn; omega
      | succ n ih =>
        intro i g hn hiN hz hg
        have e2 : (i : Int) + 1 = ((i + 1 : Nat) : Int) := by omega
        unfold wp_Mo_isSimple_92
        refine ⟨by unfold inR; omega, by unfold inR; omega, fun c => ⟨bI_01 _, ?_⟩, fun c => ⟨bI_in _, fun c1 => ⟨bI_01 _, ?_⟩, fun c1 => ⟨N + 1, ?_⟩⟩⟩
        · cases g with
          | true => exact p1 (him.mpr ⟨hz, fun i' j a b => hg.mp rfl i' j (by omega) a b⟩)
          | false => exact p0 (fun f => absurd (hg.mpr (fun i' j _ a b => (him.mp f).2 i' j a b)) (by decide))
        · rw [bI_0.mp c1] at hg ⊢
          exact p0 (fun f => absurd (hg.mpr (fun i' j _ a b => (him.mp f).2 i' j a b)) (by decide))
        · have hg1 := bI_ne.mp c1
          subst hg1
          rw [e2]
          refine l109 _ i (by omega) (fun f => ?_) (fun f => ?_) (N + 1) (i + 1) true (by omega) (by omega) (by omega) ⟨fun _ j' a b => by omega, fun _ => rfl⟩
          · rw [e2]
            refine ih (i + 1) true (by omega) (by omega) hz ⟨fun _ i' j a b d => ?_, fun _ => rfl⟩
            by_cases ci : i' = i
            · rw [ci] at b ⊢; exact f j b d
            · exact hg.mp rfl i' j (by omega) b d
          · rw [e2]
            exact ih (i + 1) false (by omega) (by omega) hz ⟨fun f => absurd f (by decide), fun g => absurd (fun j a b => g i j (by omega) a b) f⟩
    have l23 : ∀ (n i : Nat) (g : Bool), N + 1 - i < n → i ≤ N → (g = true ↔ ∀ i', i' < i → ig_at K i' ≠ ig_at K (i' + 1)) → wp_Mo_isSimple_23 post n K.length N (bI g) i S := by
      intro n
      induction n with
      | zero => intro i g hn; omega
      | succ n ih =>
        intro i g hn hiN hg
        have e2 : (i : Int) + 1 = ((i + 1 : Nat) : Int) := by omega
        unfold wp_Mo_isSimple_23
        refine ⟨by unfold inR; omega, by unfold inR; omega, fun c => ⟨N + 2, ?_⟩, fun c => ⟨⟨by omega, by omega⟩, fun v6 e6 => ?_⟩⟩
        · have ei : i = N := by omega
          subst ei
          cases g with
          | true => exact l92 (i + 2) 0 true (by omega) (by omega) (hg.mp rfl) ⟨fun _ i' j a => by omega, fun _ => rfl⟩
          | false =>
            -- the loop over pairs isn't entered
            unfold wp_Mo_isSimple_92
            refine ⟨by unfold inR; omega, by unfold inR; omega, fun c => ⟨b01_0, p0 (fun f => absurd (hg.mpr (him.mp f).1) (by decide))⟩, fun c => ⟨inR_lit0, fun _ => ⟨b01_0, p0 (fun f => absurd (hg.mpr (him.mp f).1) (by decide))⟩, fun f => absurd rfl f⟩⟩
        · have e6' : v6 = (((i + 1) % K.length : Nat) : Int) := by rw [e6]; rfl
          have m1 : (i + 1) % K.length < K.length := Nat.mod_lt _ (by omega)
          have ai := h.at h0 i
          rw [Nat.mod_eq_of_lt (by omega)] at ai
          have ai1 := h.at h0 (i + 1)
          rw [e6']
          simp only [Int.toNat_natCast]
          rw [ai.1, ai.2, ai1.1, ai1.2]
          have io := ok_in (ok i)
          have io1 := ok_in (ok (i + 1))
          have go : ∀ g' : Bool, (g' = true ↔ g = true ∧ ig_at K i ≠ ig_at K (i + 1)) → wp_Mo_isSimple_81 post (wp_Mo_isSimple_23 post n) K.length N i (bI g') S := by
            intro g' hg'
            unfold wp_Mo_isSimple_81
            rw [e2]
            refine ih (i + 1) g' (by omega) (by omega) ?_
            rw [hg', hg]
            constructor
            · rintro ⟨f1, f2⟩ i' hi'
              by_cases ci : i' = i
              · rw [ci]; exact f2
              · exact f1 i' (by omega)
            · intro f
              exact ⟨fun i' hi' => f i' (by omega), f i (by omega)⟩
          refine ⟨bI_in _, fun c1 => go false ⟨fun f => absurd f (by decide), fun f => ?_⟩, fun c1 => ⟨⟨by omega, by omega⟩, ⟨by omega, by omega⟩, io.1, io1.1, fun c2 => go true ⟨fun _ => ⟨bI_ne.mp c1, fun f => c2 (by rw [f])⟩, fun _ => rfl⟩, fun c2 => ⟨⟨by omega, by omega⟩, ⟨by omega, by omega⟩, io.2, io1.2, fun c3 => go false ⟨fun f => absurd f (by decide), fun f => absurd (Prod.ext c2 c3) f.2⟩, fun c3 => go true ⟨fun _ => ⟨bI_ne.mp c1, fun f => c3 (by rw [f])⟩, fun _ => rfl⟩⟩⟩⟩
          have f1 := f.1
          rw [bI_0.mp c1] at f1; cases f1
    unfold wp_Mo_isSimple_16
    exact ⟨N + 2, l23 (N + 2) 0 true (by omega) (by omega) ⟨fun _ i' a => by omega, fun _ => rfl⟩⟩
  unfold wp_Mo_isSimple
  rw [h.1]
  intro v2 e2
  rw [e2]
  refine ⟨bI_in _, fun c => ?_, fun c => ?_⟩
  · have e3 : (K.length : Int) - 1 = ((K.length - 1 : Nat) : Int) := by omega
    rw [e3]
    exact main _ (by rw [bI_0.mp c]; rfl)
  · exact main _ (by rw [bI_ne.mp c]; rfl)
end SMP
