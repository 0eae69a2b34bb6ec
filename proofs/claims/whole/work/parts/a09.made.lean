/-! the reference: the ring that is made -/
def mfm (S S' : MS) : Prop := (∀ k, k ≠ 33 → S'.1 k = S.1 k) ∧ ∀ k, k ≠ 34 → k ≠ 35 → S'.2 k = S.2 k
theorem mfm_refl (S : MS) : mfm S S := ⟨fun _ _ => rfl, fun _ _ _ => rfl⟩
theorem mfm_trans {S S' S2 : MS} (h : mfm S S') (g : mfm S' S2) : mfm S S2 := ⟨fun k a => (g.1 k a).trans (h.1 k a), fun k a b => (g.2 k a b).trans (h.2 k a b)⟩
theorem mfm.fr {S S' : MS} (h : mfm S S') : mfr S S' := ⟨fun k a b => h.1 k (by omega), fun k a b => h.2 k (by omega) (by omega)⟩
abbrev mmade (S : MS) (M : List PT) : Prop := marr S 33 34 35 400 M
theorem mfm_i (S : MS) (v : Int) : mfm S (ms_i S 33 v) := ⟨fun k a => by show (if k = 33 then v else S.1 k) = _; rw [if_neg a], fun _ _ _ => rfl⟩
theorem mfm_a34 (S : MS) (i v : Int) : mfm S (ms_a S 34 i v) := ⟨fun _ _ => rfl, fun k a b => by funext t; show (if k = 34 ∧ t = i.toNat then v else S.2 k t) = _; rw [if_neg (fun f => a f.1)]⟩
theorem mfm_a35 (S : MS) (i v : Int) : mfm S (ms_a S 35 i v) := ⟨fun _ _ => rfl, fun k a b => by funext t; show (if k = 35 ∧ t = i.toNat then v else S.2 k t) = _; rw [if_neg (fun f => b f.1)]⟩
theorem ig_at_app_last (M : List PT) (p : PT) : ig_at (M ++ [p]) M.length = p := by rw [ig_at_lt (by simp)]; simp
theorem ig_at_app_lt {M : List PT} {X : List PT} {k : Nat} (h : k < M.length) : ig_at (M ++ X) k = ig_at M k := by
  rw [ig_at_lt (by simp; omega), ig_at_lt h, List.getElem_append_left h]
section MAD
variable {S : MS} {M : List PT}
theorem sp_Mo_make {post : MS → Prop} {p : PT} (h : mmade S M) (hc : M.length < 400) (hp : ∀ S', mfm S S' → mmade S' (M ++ [p]) → post S') : wp_Mo_make post p.1 p.2 S := by
  obtain ⟨h1, h2, h3⟩ := h
  unfold wp_Mo_make
  rw [h1]
  refine ⟨⟨by omega, by omega⟩, fun S1 e1 => ?_⟩
  have a1 : S1.1 33 = M.length := by rw [e1]; exact h1
  rw [a1]
  refine ⟨⟨by omega, by omega⟩, fun S2 e2 S3 e3 => hp S3 ?_ ?_⟩
  · rw [e3, e2, e1]
    exact mfm_trans (mfm_a34 _ _ _) (mfm_trans (mfm_a35 _ _ _) (mfm_i _ _))
  · have a2 : S2.1 33 = M.length := by rw [e2]; exact a1
    rw [a2] at e3
    refine ⟨?_, by simp; omega, fun k hk => ?_⟩
    · rw [e3]; simp [ms_i]
    · have hk' : k < M.length + 1 := by simpa using hk
      have e34 : S3.2 34 k = if k = M.length then p.1 else S.2 34 k := by
        rw [e3, e2, e1]; simp [ms_i, ms_a]
      have e35 : S3.2 35 k = if k = M.length then p.2 else S.2 35 k := by
        rw [e3, e2, e1]; simp [ms_i, ms_a]
      rw [e34, e35]
      by_cases c : k = M.length
      · rw [if_pos c, if_pos c, c, ig_at_app_last]; exact ⟨rfl, rfl⟩
      · rw [if_neg c, if_neg c, ig_at_app_lt (by omega)]; exact h3 k (by omega)
theorem ig_ar_bd {p q : PT} (hp : ig_ok p) (hq : ig_ok q) : -400000000 ≤ ig_ar p q ∧ ig_ar p q ≤ 400000000 := by
  unfold ig_ok at hp hq
  have a1 := Int.mul_nonneg hp.1 hq.2.2.1
  have a2 := Int.mul_nonneg hq.1 hp.2.2.1
  have b1 := pb_mul (x := p.1) (y := q.2) (by omega) (by omega)
  have b2 := pb_mul (x := q.1) (y := p.2) (by omega) (by omega)
  unfold ig_ar
  omega
theorem gx_S_bd {f : Nat → Int} {b : Int} (h : ∀ k, -b ≤ f k ∧ f k ≤ b) (n : Nat) : -(n * b) ≤ gx_S f n ∧ gx_S f n ≤ n * b := by
  induction n with
  | zero => simp [gx_S]
  | succ n ih =>
    have := h n
    have e : ((n + 1 : Nat) : Int) * b = n * b + b := by rw [Int.natCast_add, Int.add_mul]; simp
    rw [e]
    simp only [gx_S]
    omega
theorem ig_area_bd {l : List PT} (hl : ∀ p ∈ l, ig_ok p) (h0 : l ≠ []) (hn : l.length ≤ 400) : -160000000000 ≤ ig_area l ∧ ig_area l ≤ 160000000000 := by
  have ok := ig_at_ok hl h0
  have := gx_S_bd (f := fun k => ig_ar (ig_at l k) (ig_at l (k + 1))) (b := 400000000) (fun k => ig_ar_bd (ok _) (ok _)) l.length
  unfold ig_area
  omega
theorem sp_Mo_madeArea {post : Int → MS → Prop} (h : mmade S M) (h0 : M ≠ []) (hok : ∀ p ∈ M, ig_ok p) (hp : post (ig_area M) S) : wp_Mo_madeArea post S := by
  have ok := ig_at_ok hok h0
  have hn : 0 < M.length := List.length_pos_iff.mpr h0
  have h2 := h.2.1
  have loop : ∀ (n k : Nat), M.length - k < n → k ≤ M.length → wp_Mo_madeArea_4 post n (gx_S (fun k => ig_ar (ig_at M k) (ig_at M (k + 1))) k) k S := by
    intro n
    induction n with
    | zero => intro k hn; omega
    | succ n ih =>
      intro k hk hkn
      unfold wp_Mo_madeArea_4
      rw [h.1]
      have e1 : (k : Int) + 1 = ((k + 1 : Nat) : Int) := by omega
      refine ⟨by unfold inR; omega, by unfold inR; omega, fun c => ?_, fun c => ⟨⟨by omega, by omega⟩, fun v4 e4 => ?_⟩⟩
      · have : k = M.length := by omega
        subst this; exact hp
      · have m1 : (k + 1) % M.length < M.length := Nat.mod_lt _ hn
        have e4' : v4 = (((k + 1) % M.length : Nat) : Int) := by rw [e4]; rfl
        have a := h.at h0 k
        rw [Nat.mod_eq_of_lt (by omega)] at a
        have b := h.at h0 (k + 1)
        rw [e4']
        simp only [Int.toNat_natCast]
        rw [a.1, a.2, b.1, b.2]
        refine ⟨⟨by omega, by omega⟩, (ok_in (ok k)).1, ⟨by omega, by omega⟩, (ok_in (ok (k + 1))).2, ⟨by omega, by omega⟩, (ok_in (ok (k + 1))).1, ⟨by omega, by omega⟩, (ok_in (ok k)).2, fun v1 e5 => ?_⟩
        have : v1 = gx_S (fun k => ig_ar (ig_at M k) (ig_at M (k + 1))) (k + 1) := by
          rw [e5]; simp only [gx_S, ig_ar]; omega
        rw [this, e1]
        exact ih (k + 1) (by omega) (by omega)
  exact ⟨M.length + 1, loop _ 0 (by omega) (by omega)⟩
theorem drop_at {M : List PT} {k t : Nat} (hk : k < M.length) (ht : t < M.length - 1) : ig_at (M.take k ++ M.drop (k + 1)) t = ig_at M (if t < k then t else t + 1) := by
  have hl : (M.take k ++ M.drop (k + 1)).length = M.length - 1 := by simp; omega
  rw [ig_at_lt (by rw [hl]; exact ht)]
  by_cases c : t < k
  · rw [if_pos c, ig_at_lt (by omega), List.getElem_append_left (by simp; omega), List.getElem_take]
  · rw [if_neg c, ig_at_lt (by omega), List.getElem_append_right (by simp; omega), List.getElem_drop]
    congr 1
    simp; omega
theorem sp_Mo_dropMade {post : MS → Prop} (h : mmade S M) {k : Nat} (hk : k < M.length) (hp : ∀ S', mfm S S' → mmade S' (M.take k ++ M.drop (k + 1)) → post S') : wp_Mo_dropMade post k S := by
  obtain ⟨h1, h2, h3⟩ := h
  have hl : (M.take k ++ M.drop (k + 1)).length = M.length - 1 := by simp; omega
  unfold wp_Mo_dropMade
  intro S1 e1
  have a1 : S1.1 33 = ((M.length - 1 : Nat) : Int) := by rw [e1, h1]; simp [ms_i]; omega
  have b1 : ∀ t, t < M.length → S1.2 34 t = (ig_at M t).1 ∧ S1.2 35 t = (ig_at M t).2 := by intro t ht; rw [e1]; exact h3 t ht
  have f1 : mfm S S1 := by rw [e1]; exact mfm_i _ _
  have loop : ∀ (n i : Nat) (S2 : MS), M.length - i < n → k ≤ i → i ≤ M.length - 1 → mfm S S2 → S2.1 33 = ((M.length - 1 : Nat) : Int) → (∀ t, t < M.length → S2.2 34 t = (ig_at M (if k ≤ t ∧ t < i then t + 1 else t)).1 ∧ S2.2 35 t = (ig_at M (if k ≤ t ∧ t < i then t + 1 else t)).2) → wp_Mo_dropMade_12 post n i S2 := by
    intro n
    induction n with
    | zero => intro i S2 hn; omega
    | succ n ih =>
      intro i S2 hn hki hi hf a2 b2
      unfold wp_Mo_dropMade_12
      rw [a2]
      refine ⟨by unfold inR; omega, by unfold inR; omega, fun c => hp S2 hf ⟨?_, by rw [hl]; omega, fun t ht => ?_⟩, fun c => ⟨⟨by omega, by omega⟩, ⟨by omega, by omega⟩, fun S3 e3 => ⟨⟨by omega, by omega⟩, ⟨by omega, by omega⟩, fun S4 e4 => ?_⟩⟩⟩
      · rw [a2, hl]
      · rw [hl] at ht
        rw [drop_at hk ht]
        have := b2 t (by omega)
        by_cases ct : t < k
        · rw [if_pos ct]; rw [if_neg (by omega)] at this; exact this
        · rw [if_neg ct]; rw [if_pos (by omega)] at this; exact this
      · have e5 : (i : Int) + 1 = ((i + 1 : Nat) : Int) := by omega
        rw [e5] at e3 e4 ⊢
        rw [Int.toNat_natCast] at e3 e4
        have bi := b2 (i + 1) (by omega)
        rw [if_neg (by omega)] at bi
        have x3 : S3.2 35 (i + 1) = S2.2 35 (i + 1) := by rw [e3]; simp [ms_a]
        rw [x3] at e4
        rw [bi.1] at e3
        rw [bi.2] at e4
        refine ih (i + 1) S4 (by omega) (by omega) (by omega) (mfm_trans hf (by rw [e4, e3]; exact mfm_trans (mfm_a34 _ _ _) (mfm_a35 _ _ _))) (by rw [e4, e3]; exact a2) (fun t ht => ?_)
        have y1 : S4.2 34 t = if t = i then (ig_at M (i + 1)).1 else S2.2 34 t := by rw [e4, e3]; simp [ms_a]
        have y2 : S4.2 35 t = if t = i then (ig_at M (i + 1)).2 else S2.2 35 t := by rw [e4, e3]; simp [ms_a]
        rw [y1, y2]
        by_cases ct : t = i
        · rw [if_pos ct, if_pos ct, if_pos (by omega), ct]; exact ⟨rfl, rfl⟩
        · rw [if_neg ct, if_neg ct]
          have := b2 t ht
          by_cases c6 : k ≤ t ∧ t < i
          · rw [if_pos c6] at this; rw [if_pos (by omega)]; exact this
          · rw [if_neg c6] at this; rw [if_neg (by omega)]; exact this
  refine ⟨M.length + 1, loop _ k S1 (by omega) (by omega) (by omega) f1 a1 (fun t ht => ?_)⟩
  rw [if_neg (by omega)]
  exact b1 t ht
theorem rev_at {M : List PT} {t : Nat} (ht : t < M.length) : ig_at M.reverse t = ig_at M (M.length - 1 - t) := by
  rw [ig_at_lt (by simpa using ht), ig_at_lt (by omega), List.getElem_reverse]
/-- the loop that drops straight corners -/
theorem sp_Mo_tidy_88 {post : MS → Prop} {G : List PT} : ∀ (n : Nat) (S : MS) (L : List PT), L.length + 1 < n → mmade S L → L ≠ [] → (∀ p ∈ L, ig_ok p) → gx_simple (rgn L) → rote G (ig_flt L) → (∀ S' T, mfm S S' → mmade S' T → rote G T → post S') → wp_Mo_tidy_88 post n 1 S := by
  intro n
  induction n with
  | zero => intro S L hL; omega
  | succ n ihn =>
    intro S L hL h h0 hok hs hG hp
    have ok := ig_at_ok hok h0
    have hn : 0 < L.length := List.length_pos_iff.mpr h0
    have h2 := h.2.1
    have l3 := rgn_three hs h0
    have inner : ∀ (m k : Nat), L.length - k < m → k ≤ L.length → (∀ k', k' < k → ¬ ig_cst L k') → wp_Mo_tidy_96 post (wp_Mo_tidy_88 post n) (m + 1) 0 k S := by
      intro m
      induction m with
      | zero => intro k hm; omega
      | succ m ihm =>
        intro k hm hk hno
        have e1 : (k : Int) + 1 = ((k + 1 : Nat) : Int) := by omega
        unfold wp_Mo_tidy_96
        rw [h.1]
        refine ⟨by unfold inR; omega, by unfold inR; omega, fun c => ?_, fun c => ⟨inR_lit0, fun f => absurd rfl f, fun _ => ⟨⟨by omega, by omega⟩, fun v3 e3 => ⟨⟨by omega, by omega⟩, fun v4 e4 => ?_⟩⟩⟩⟩
        · obtain ⟨n', hn'⟩ : ∃ n', n = n' + 1 := ⟨n - 1, by omega⟩
          rw [hn']
          unfold wp_Mo_tidy_88
          refine ⟨inR_lit0, fun _ => hp S L (mfm_refl S) h ?_, fun f => absurd rfl f⟩
          rw [ig_flt_id (fun i hi => hno i (by omega))] at hG
          exact hG
        · have m1 : (k + 1) % L.length < L.length := Nat.mod_lt _ hn
          have m0 : (k + L.length - 1) % L.length < L.length := Nat.mod_lt _ hn
          have e4' : v4 = (((k + 1) % L.length : Nat) : Int) := by rw [e4]; rfl
          have e3' : v3 = (((k + L.length - 1) % L.length : Nat) : Int) := by
            rw [e3, show (k : Int) + (L.length : Int) - 1 = ((k + L.length - 1 : Nat) : Int) by omega]; rfl
          have a := h.at h0 k
          rw [Nat.mod_eq_of_lt (by omega)] at a
          have b := h.at h0 (k + 1)
          have d := h.at h0 (k + L.length - 1)
          rw [e4', e3']
          simp only [Int.toNat_natCast]
          rw [a.1, a.2, b.1, b.2, d.1, d.2]
          refine ⟨⟨by omega, by omega⟩, ⟨by omega, by omega⟩, ⟨by omega, by omega⟩, ⟨by omega, by omega⟩, ⟨by omega, by omega⟩, ⟨by omega, by omega⟩, sp_Mo_turn ⟨ok_turn (ok _) (ok _) (ok _), fun c2 => ?_, fun c2 => ?_⟩⟩
          · unfold wp_Mo_tidy_183
            rw [e1]
            refine ihm (k + 1) (by omega) (by omega) (fun k' hk' => ?_)
            by_cases ck : k' = k
            · rw [ck]; exact c2
            · exact hno k' (by omega)
          · have hk' : k < L.length := by omega
            obtain ⟨g1, g2, g3⟩ := rgn_drop_ix hk' hs c2
            have hl : (L.take k ++ L.drop (k + 1)).length = L.length - 1 := by simp; omega
            have n0 : L.take k ++ L.drop (k + 1) ≠ [] := by intro f; rw [f] at hl; simp at hl; omega
            have okd : ∀ p ∈ L.take k ++ L.drop (k + 1), ig_ok p := by
              intro p hp
              rcases List.mem_append.mp hp with f | f
              · exact hok p (List.mem_of_mem_take f)
              · exact hok p (List.mem_of_mem_drop f)
            refine sp_Mo_dropMade h hk' (fun S' q1 q2 => ?_)
            unfold wp_Mo_tidy_183
            rw [e1]
            have q3 := q2.1
            unfold wp_Mo_tidy_96
            rw [q3, hl]
            have nx : wp_Mo_tidy_88 post n 1 S' := ihn S' _ (by rw [hl]; omega) q2 n0 okd g1 (rote_trans hG g3) (fun S2 T t1 t2 t3 => hp S2 T (mfm_trans q1 t1) t2 t3)
            exact ⟨by unfold inR; omega, by unfold inR; omega, fun _ => nx, fun _ => ⟨inR_lit1, fun _ => nx, fun f => absurd f (by decide)⟩⟩
    unfold wp_Mo_tidy_88
    exact ⟨inR_lit1, fun f => absurd f (by decide), fun _ => ⟨L.length + 2, inner (L.length + 1) 0 (by omega) (by omega) (fun k' hk' => by omega)⟩⟩
theorem sp_Mo_tidy {post : MS → Prop} (h : mmade S M) (h0 : M ≠ []) (hok : ∀ p ∈ M, ig_ok p) (hs : gx_simple (rgn M)) (hp : ∀ S' T, mfm S S' → mmade S' T → rote (ig_flt (ig_or M)) T → post S') : wp_Mo_tidy post S := by
  have h2 := h.2.1
  have hn : 0 < M.length := List.length_pos_iff.mpr h0
  have bd := ig_area_bd hok h0 h2
  have sense := rgn_sense hok hs h0
  unfold wp_Mo_tidy
  refine sp_Mo_madeArea h h0 hok ⟨by unfold inL; omega, fun c => ?_, fun c v2 e2 => ?_⟩
  · have ha : 0 < ig_area M := by rcases sense with f | f <;> omega
    refine ⟨M.length + 2, sp_Mo_tidy_88 _ S M (by omega) h h0 hok hs (rote_refl _) ?_⟩
    unfold ig_or at hp
    rw [if_pos ha] at hp
    exact hp
  · have ha : ¬ 0 < ig_area M := by omega
    unfold ig_or at hp
    rw [if_neg ha] at hp
    rw [h.1] at e2
    have fin : ∀ S', mfm S S' → mmade S' M.reverse → wp_Mo_tidy_86 post S' := by
      intro S' f1 f2
      refine ⟨M.length + 2, sp_Mo_tidy_88 _ S' M.reverse (by simp) f2 (by simpa using h0) (fun p hp => hok p (by simpa using hp)) (rgn_rev.1 hs) (rote_refl _) (fun S2 T t1 t2 t3 => hp S2 T (mfm_trans f1 t1) t2 t3)⟩
    have loop : ∀ (n i : Nat) (S1 : MS), M.length - i < n → i ≤ M.length → mfm S S1 → S1.1 33 = M.length → (∀ t, t < M.length → S1.2 34 t = (ig_at M (if t < i ∨ M.length - 1 - i < t then M.length - 1 - t else t)).1 ∧ S1.2 35 t = (ig_at M (if t < i ∨ M.length - 1 - i < t then M.length - 1 - t else t)).2) → 2 * i ≤ M.length + 1 → wp_Mo_tidy_18 post n i ((M.length : Int) - 1 - i) S1 := by
      intro n
      induction n with
      | zero => intro i S1 hm; omega
      | succ n ih =>
        intro i S1 hm hi f1 a1 b1 hii
        have e1 : (i : Int) + 1 = ((i + 1 : Nat) : Int) := by omega
        unfold wp_Mo_tidy_18
        refine ⟨by unfold inR; omega, by unfold inR; omega, fun c1 => fin S1 f1 ⟨by rw [a1]; simp, by simpa using h2, fun t ht => ?_⟩, fun c1 => ?_⟩
        · have ht' : t < M.length := by simpa using ht
          rw [rev_at ht']
          have := b1 t ht'
          by_cases ct : t < i ∨ M.length - 1 - i < t
          · rw [if_pos ct] at this; exact this
          · rw [if_neg ct] at this
            rw [show M.length - 1 - t = t by omega]; exact this
        · have ej : (M.length : Int) - 1 - i = ((M.length - 1 - i : Nat) : Int) := by omega
          rw [ej]
          simp only [Int.toNat_natCast]
          have bi := b1 i (by omega)
          rw [if_neg (by omega)] at bi
          have bj := b1 (M.length - 1 - i) (by omega)
          rw [if_neg (by omega)] at bj
          refine ⟨⟨by omega, by omega⟩, fun v3 x3 => ⟨⟨by omega, by omega⟩, fun v4 x4 => ⟨⟨by omega, by omega⟩, ⟨by omega, by omega⟩, fun S3 y3 => ⟨⟨by omega, by omega⟩, ⟨by omega, by omega⟩, fun S4 y4 => ⟨⟨by omega, by omega⟩, fun S5 y5 => ⟨⟨by omega, by omega⟩, fun S6 y6 => ?_⟩⟩⟩⟩⟩⟩
          have z3 : S3.2 35 (M.length - 1 - i) = S1.2 35 (M.length - 1 - i) := by rw [y3]; simp [ms_a]
          rw [z3, bj.2] at y4
          rw [bj.1] at y3
          rw [bi.1] at x3
          rw [bi.2] at x4
          have e7 : ((M.length - 1 - i : Nat) : Int) + (-1) = (M.length : Int) - 1 - ((i + 1 : Nat) : Int) := by omega
          rw [e1, e7]
          refine ih (i + 1) S6 (by omega) (by omega) (mfm_trans f1 ?_) (by rw [y6, y5, y4, y3]; exact a1) (fun t ht => ?_) (by omega)
          · rw [y6, y5, y4, y3]
            exact mfm_trans (mfm_a34 _ _ _) (mfm_trans (mfm_a35 _ _ _) (mfm_trans (mfm_a34 _ _ _) (mfm_a35 _ _ _)))
          · have u1 : S6.2 34 t = if t = M.length - 1 - i then (ig_at M i).1 else if t = i then (ig_at M (M.length - 1 - i)).1 else S1.2 34 t := by
              rw [y6, y5, y4, y3, x3]; simp [ms_a]
            have u2 : S6.2 35 t = if t = M.length - 1 - i then (ig_at M i).2 else if t = i then (ig_at M (M.length - 1 - i)).2 else S1.2 35 t := by
              rw [y6, y5, y4, y3, x4]; simp [ms_a]
            rw [u1, u2]
            by_cases t1 : t = M.length - 1 - i
            · rw [if_pos t1, if_pos t1, if_pos (by omega), show M.length - 1 - t = i by omega]; exact ⟨rfl, rfl⟩
            · rw [if_neg t1, if_neg t1]
              by_cases t2 : t = i
              · rw [if_pos t2, if_pos t2, if_pos (by omega), t2]; exact ⟨rfl, rfl⟩
              · rw [if_neg t2, if_neg t2]
                have := b1 t ht
                by_cases t3 : t < i ∨ M.length - 1 - i < t
                · rw [if_pos t3] at this; rw [if_pos (by omega)]; exact this
                · rw [if_neg t3] at this; rw [if_neg (by omega)]; exact this
    refine ⟨M.length + 1, ?_⟩
    have := loop (M.length + 1) 0 S (by omega) (by omega) (mfm_refl S) h.1 (fun t ht => by rw [if_neg (by omega)]; exact h.2.2 t ht) (by omega)
    rw [e2]
    simpa using this
end MAD
