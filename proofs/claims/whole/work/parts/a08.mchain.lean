/-! the reference: touches, isChain -/
section CHN
variable {S : MS} {R : AR}
theorem ig_add_self (a : PT) : ig_add a a = (2 * a.1, 2 * a.2) := Prod.ext (by show a.1 + a.1 = 2 * a.1; omega) (by show a.2 + a.2 = 2 * a.2; omega)
theorem ok_add {a b : PT} (ha : ig_ok a) (hb : ig_ok b) : (0 ≤ (ig_add a b).1 ∧ (ig_add a b).1 ≤ 40000) ∧ 0 ≤ (ig_add a b).2 ∧ (ig_add a b).2 ≤ 40000 := by
  unfold ig_ok at ha hb
  show (0 ≤ a.1 + b.1 ∧ a.1 + b.1 ≤ 40000) ∧ 0 ≤ a.2 + b.2 ∧ a.2 + b.2 ≤ 40000
  omega
theorem sp_Mo_touches {post : Int → MS → Prop} (h : MD S R) (w : WR R) {l : Nat} (h1 : 1 ≤ l) (h2 : l ≤ R.1 7 0) {e i : Nat} (he : (aRow R).length = e + 1) (hi : i < e)
    (p1 : (∃ j, j < (aRing R l).length ∧ cm_touch (aRing R l) (aRow R) e i j) → post 1 S) (p0 : ¬ (∃ j, j < (aRing R l).length ∧ cm_touch (aRing R l) (aRow R) e i j) → post 0 S) : wp_Mo_touches post l i S := by
  have okl := fun k => w.ok h1 h2 k
  have hr := w.rg h1 h2
  have wl0 := w.1.1
  have hlen := (h.2.2.1 l h1 h2).1
  have hr2 := hr.2.1
  have hrow := h.2.1
  have hK0 : aRow R ≠ [] := by intro f; rw [f] at he; simp at he
  have okK := ig_at_ok w.2.1.2 hK0
  have h32 := w.2.1.1
  have ai := hrow.at hK0 i
  have ai1 := hrow.at hK0 (i + 1)
  rw [Nat.mod_eq_of_lt (by omega)] at ai ai1
  have loop : ∀ (n k : Nat) (b : Bool), (aRing R l).length - k < n → k ≤ (aRing R l).length → (b = true ↔ ∃ j, j < k ∧ cm_touch (aRing R l) (aRow R) e i j) → wp_Mo_touches_49 post n l i (bI b) e (ig_at (aRow R) i).1 (ig_at (aRow R) i).2 (ig_at (aRow R) (i + 1)).1 (ig_at (aRow R) (i + 1)).2 k S := by
    intro n
    induction n with
    | zero => intro k b hn; omega
    | succ n ih =>
      intro k b hn hk hb
      have e1 : (k : Int) + 1 = ((k + 1 : Nat) : Int) := by omega
      have hnn : ¬ ((aRing R l).length : Int) ≤ (k : Int) → (aRing R l).length - (k + 1) < n ∧ k + 1 ≤ (aRing R l).length := by clear hb; omega
      have hkk : k ≤ 60 := by clear hb; omega
      unfold wp_Mo_touches_49
      rw [Int.toNat_natCast, hlen]
      refine ⟨⟨by omega, by clear hb; omega⟩, by unfold inR; clear hb; omega, by unfold inR; clear hb; omega, fun c => ⟨bI_01 _, ?_⟩, fun c => ?_⟩
      · have ek : k = (aRing R l).length := by clear hb; omega
        subst ek
        cases b with
        | true => exact p1 (hb.mp rfl)
        | false => exact p0 (fun f => absurd (hb.mpr f) (by decide))
      · have hnn := hnn c
        have go : ∀ b' : Bool, (b' = true ↔ b = true ∨ cm_touch (aRing R l) (aRow R) e i k) → wp_Mo_touches_286 post (wp_Mo_touches_49 post n) l i (bI b') e (ig_at (aRow R) i).1 (ig_at (aRow R) i).2 (ig_at (aRow R) (i + 1)).1 (ig_at (aRow R) (i + 1)).2 k S := by
          intro b' hb'
          unfold wp_Mo_touches_286
          rw [e1]
          refine ih (k + 1) b' hnn.1 hnn.2 ?_
          rw [hb', hb]
          constructor
          · rintro (⟨j, f, g⟩ | f)
            · exact ⟨j, Nat.lt_succ_of_lt f, g⟩
            · exact ⟨k, Nat.lt_succ_self k, f⟩
          · rintro ⟨j, f, g⟩
            by_cases ci : j = k
            · rw [ci] at g; exact Or.inr g
            · exact Or.inl ⟨j, Nat.lt_of_le_of_ne (Nat.le_of_lt_succ f) ci, g⟩
        rw [e1]
        refine sp_Mo_cornerX h w h1 h2 (by clear hb; omega) (sp_Mo_cornerY h w h1 h2 (by clear hb; omega) (sp_Mo_cornerX h w h1 h2 (by clear hb; omega) (sp_Mo_cornerY h w h1 h2 (by clear hb; omega) (sp_Mo_meet (okK _) (okK _) (okl _) (okl _) ⟨bI_in _, fun c1 => go b ⟨Or.inl, fun f => ?_⟩, fun c1 => ?_⟩))))
        · rcases f with f | f
          · exact f
          · have f1 := f.1; rw [bI_0.mp c1] at f1; cases f1
        · have hm := bI_ne.mp c1
          clear hb
          -- along, begin, end
          have k259 : ∀ bg en al : Bool, (bg = true ↔ i = 0 ∧ im_on (ig_at (aRing R l) k) (ig_at (aRing R l) (k + 1)) (ig_at (aRow R) i) = true) → (en = true ↔ i + 1 = e ∧ im_on (ig_at (aRing R l) k) (ig_at (aRing R l) (k + 1)) (ig_at (aRow R) (i + 1)) = true) → (al = true ↔ ig_turn (ig_at (aRow R) i) (ig_at (aRow R) (i + 1)) (ig_at (aRing R l) k) = 0 ∧ ig_turn (ig_at (aRow R) i) (ig_at (aRow R) (i + 1)) (ig_at (aRing R l) (k + 1)) = 0 ∧ im_over (ig_at (aRow R) i) (ig_at (aRow R) (i + 1)) (ig_at (aRing R l) k) (ig_at (aRing R l) (k + 1)) = true) → wp_Mo_touches_259 post (wp_Mo_touches_49 post n) l i (bI b) e (ig_at (aRow R) i).1 (ig_at (aRow R) i).2 (ig_at (aRow R) (i + 1)).1 (ig_at (aRow R) (i + 1)).2 k (bI bg) (bI en) (bI al) S := by
            intro bg en al hbg hen hal
            have ht : cm_touch (aRing R l) (aRow R) e i k ↔ al = true ∨ (¬ bg = true ∧ ¬ en = true) := by
              unfold cm_touch
              rw [hal, hbg, hen]
              exact ⟨fun f => f.2, fun f => ⟨hm, f⟩⟩
            unfold wp_Mo_touches_259 wp_Mo_touches_285
            refine ⟨bI_in _, fun d1 => go true ⟨fun _ => Or.inl (bI_ne.mp d1), fun _ => rfl⟩, fun d1 => ⟨bI_in _, fun d2 => go true ⟨fun _ => Or.inr (ht.mpr (Or.inl (bI_ne.mp d2))), fun _ => rfl⟩, fun d2 => ⟨bI_in _, fun d3 => go false ⟨fun f => absurd f (by decide), fun f => ?_⟩, fun d3 => ⟨bI_in _, fun d4 => go false ⟨fun f => absurd f (by decide), fun f => ?_⟩, fun d4 => go true ⟨fun _ => Or.inr (ht.mpr (Or.inr ⟨fun f => ?_, fun f => ?_⟩)), fun _ => rfl⟩⟩⟩⟩⟩
            · rcases f with f | f
              · rw [bI_0.mp d1] at f; exact f
              · rcases ht.mp f with f | f
                · rw [bI_0.mp d2] at f; exact f
                · exact absurd (bI_ne.mp d3) f.1
            · rcases f with f | f
              · rw [bI_0.mp d1] at f; exact f
              · rcases ht.mp f with f | f
                · rw [bI_0.mp d2] at f; exact f
                · exact absurd (bI_ne.mp d4) f.2
            · rw [bI_0.mp d3] at f; exact absurd f (by decide)
            · rw [bI_0.mp d4] at f; exact absurd f (by decide)
          have k182 : ∀ bg en : Bool, (bg = true ↔ i = 0 ∧ im_on (ig_at (aRing R l) k) (ig_at (aRing R l) (k + 1)) (ig_at (aRow R) i) = true) → (en = true ↔ i + 1 = e ∧ im_on (ig_at (aRing R l) k) (ig_at (aRing R l) (k + 1)) (ig_at (aRow R) (i + 1)) = true) → wp_Mo_touches_182 post (wp_Mo_touches_49 post n) l i (bI b) e (ig_at (aRow R) i).1 (ig_at (aRow R) i).2 (ig_at (aRow R) (i + 1)).1 (ig_at (aRow R) (i + 1)).2 k (ig_at (aRing R l) k).1 (ig_at (aRing R l) k).2 (ig_at (aRing R l) (k + 1)).1 (ig_at (aRing R l) (k + 1)).2 (bI bg) (bI en) S := by
            intro bg en hbg hen
            unfold wp_Mo_touches_182 wp_Mo_touches_225
            refine sp_Mo_turn (a := ig_at (aRow R) i) (b := ig_at (aRow R) (i + 1)) (d := ig_at (aRing R l) k) ⟨ok_turn (okK _) (okK _) (okl _), fun d1 => ⟨inR_lit0, fun _ => k259 bg en false hbg hen ⟨fun f => absurd f (by decide), fun f => absurd f.1 d1⟩, fun f => absurd rfl f⟩, fun d1 => sp_Mo_turn (a := ig_at (aRow R) i) (b := ig_at (aRow R) (i + 1)) (d := ig_at (aRing R l) (k + 1)) ⟨ok_turn (okK _) (okK _) (okl _), fun d2 => ⟨inR_lit0, fun _ => k259 bg en false hbg hen ⟨fun f => absurd f (by decide), fun f => absurd f.2.1 d2⟩, fun f => absurd rfl f⟩, fun d2 => ⟨inR_lit1, fun f => absurd f (by decide), fun _ => sp_Mo_overlap (okK _) (okK _) (okl _) (okl _) ⟨bI_in _, fun d3 => k259 bg en false hbg hen ⟨fun f => absurd f (by decide), fun f => ?_⟩, fun d3 => k259 bg en true hbg hen ⟨fun _ => ⟨d1, d2, bI_ne.mp d3⟩, fun _ => rfl⟩⟩⟩⟩⟩
            have f1 := f.2.2; rw [bI_0.mp d3] at f1; exact f1
          have k149 : ∀ bg : Bool, (bg = true ↔ i = 0 ∧ im_on (ig_at (aRing R l) k) (ig_at (aRing R l) (k + 1)) (ig_at (aRow R) i) = true) → wp_Mo_touches_149 post (wp_Mo_touches_49 post n) l i (bI b) e (ig_at (aRow R) i).1 (ig_at (aRow R) i).2 (ig_at (aRow R) (i + 1)).1 (ig_at (aRow R) (i + 1)).2 k (ig_at (aRing R l) k).1 (ig_at (aRing R l) k).2 (ig_at (aRing R l) (k + 1)).1 (ig_at (aRing R l) (k + 1)).2 (bI bg) S := by
            intro bg hbg
            unfold wp_Mo_touches_149
            refine ⟨by unfold inR; omega, by unfold inR; omega, fun d1 => k182 bg false hbg ⟨fun f => absurd f (by decide), fun f => absurd f.1 (by omega)⟩, fun d1 => sp_Mo_isOn (okl _) (okl _) (okK _) ⟨bI_in _, fun d2 => k182 bg false hbg ⟨fun f => absurd f (by decide), fun f => ?_⟩, fun d2 => k182 bg true hbg ⟨fun _ => ⟨by omega, bI_ne.mp d2⟩, fun _ => rfl⟩⟩⟩
            have f1 := f.2; rw [bI_0.mp d2] at f1; exact f1
          refine ⟨by unfold inR; omega, fun d1 => k149 false ⟨fun f => absurd f (by decide), fun f => absurd f.1 (by omega)⟩, fun d1 => sp_Mo_isOn (okl _) (okl _) (okK _) ⟨bI_in _, fun d2 => k149 false ⟨fun f => absurd f (by decide), fun f => ?_⟩, fun d2 => k149 true ⟨fun _ => ⟨by omega, bI_ne.mp d2⟩, fun _ => rfl⟩⟩⟩
          have f1 := f.2; rw [bI_0.mp d2] at f1; exact f1
  unfold wp_Mo_touches
  rw [hrow.1, he]
  intro v4 e4
  have e4' : v4 = (e : Int) := by omega
  have e5 : (i : Int) + 1 = ((i + 1 : Nat) : Int) := by omega
  rw [e5, Int.toNat_natCast, Int.toNat_natCast, ai.1, ai.2, ai1.1, ai1.2, e4']
  refine ⟨⟨by omega, by omega⟩, fun v5 e5 => ⟨⟨by omega, by omega⟩, fun v6 e6 => ⟨⟨by omega, by omega⟩, fun v7 e7 => ⟨⟨by omega, by omega⟩, fun v8 e8 => ⟨(aRing R l).length + 1, ?_⟩⟩⟩⟩⟩
  rw [e5, e6, e7, e8]
  exact loop _ 0 false (by omega) (by omega) ⟨fun f => absurd f (by decide), fun ⟨j, f, _⟩ => absurd f (Nat.not_lt_zero j)⟩
theorem sp_Mo_isChain {post : Int → MS → Prop} (h : MD S R) (w : WR R) {l : Nat} (h1 : 1 ≤ l) (h2 : l ≤ R.1 7 0)
    (ps : (aRow R).length < 2 → post 0 S) (p1 : ∀ e, (aRow R).length = e + 1 → 0 < e → cm_ok (aRing R l) (aRow R) e → post 1 S) (p0 : ∀ e, (aRow R).length = e + 1 → 0 < e → ¬ cm_ok (aRing R l) (aRow R) e → post 0 S) : wp_Mo_isChain post l S := by
  have hrow := h.2.1
  have h32 := w.2.1.1
  have wl0 := w.1.1
  unfold wp_Mo_isChain
  rw [hrow.1]
  intro v2 e2
  rw [e2]
  refine ⟨by unfold inR; omega, fun c => ?_, fun c => ps (by omega)⟩
  obtain ⟨e, he⟩ : ∃ e, (aRow R).length = e + 1 := ⟨(aRow R).length - 1, by omega⟩
  have he0 : 0 < e := by omega
  have hK0 : aRow R ≠ [] := by intro f; rw [f] at he; simp at he
  have okK := ig_at_ok w.2.1.2 hK0
  have p1 := p1 e he he0
  have p0 := p0 e he he0
  have aK : ∀ k, k ≤ e → S.2 5 k = (ig_at (aRow R) k).1 ∧ S.2 6 k = (ig_at (aRow R) k).2 := fun k hk => hrow.2.2 k (by omega)
  have a0 := aK 0 (by omega)
  have a1 := aK 1 (by omega)
  have ae := aK e (by omega)
  -- the last loop
  have l170 : ∀ (n i : Nat) (g : Bool), e + 1 - i < n → i ≤ e → (g = true ↔ (ch_ends (aRing R l) (aRow R) e ∧ ch_in (aRing R l) (aRow R) e ∧ im_simple (aRow R) false) ∧ ∀ i' j, i' < i → j < (aRing R l).length → ¬ cm_touch (aRing R l) (aRow R) e i' j) → wp_Mo_isChain_170 post n l ((aRow R).length : Int) (bI g) i S := by
    intro n
    induction n with
    | zero => intro i g hn; omega
    | succ n ih =>
      intro i g hn hie hg
      have e3 : (i : Int) + 1 = ((i + 1 : Nat) : Int) := by omega
      unfold wp_Mo_isChain_170
      rw [a0.1, a0.2, a1.1, a1.2, he]
      refine ⟨by unfold inR; omega, by unfold inR; omega, fun c1 => ⟨bI_in _, fun c2 => p0 (fun f => ?_), fun c2 => ⟨by unfold inR; omega, fun c3 => ?_, fun c3 => ⟨⟨by omega, by omega⟩, ⟨by omega, by omega⟩, ⟨by omega, by omega⟩, ⟨by omega, by omega⟩, ?_⟩⟩⟩, fun c1 => ⟨bI_in _, fun c2 => ?_, fun c2 => ?_⟩⟩
      · rw [bI_0.mp c2] at hg
        exact absurd (hg.mpr ⟨⟨f.1, f.2.1, f.2.2.1⟩, fun i' j a b => f.2.2.2.1 i' j (by omega) b⟩) (by decide)
      · obtain ⟨g1, g2⟩ := hg.mp (bI_ne.mp c2)
        exact p1 ⟨g1.1, g1.2.1, g1.2.2, fun i' j a b => g2 i' j (by omega) b, Or.inl (by omega)⟩
      · obtain ⟨g1, g2⟩ := hg.mp (bI_ne.mp c2)
        refine sp_Mo_isWithin (z := ig_add (ig_at (aRow R) 0) (ig_at (aRow R) 1)) h w h1 h2 (ok_add (okK 0) (okK 1)) (fun f => ⟨inR_lit1, fun k => absurd k (by decide), fun _ => p1 ⟨g1.1, g1.2.1, g1.2.2, fun i' j a b => g2 i' j (by omega) b, Or.inr f⟩⟩) (fun f => ⟨inR_lit0, fun _ => p0 (fun k => ?_), fun k => absurd rfl k⟩)
        rcases k.2.2.2.2 with q | q
        · omega
        · exact f q
      · unfold wp_Mo_isChain_197
        rw [e3, ← he]
        refine ih (i + 1) false (by omega) (by omega) ⟨fun f => absurd f (by decide), fun f => ?_⟩
        rw [bI_0.mp c2] at hg
        exact hg.mpr ⟨f.1, fun i' j a b => f.2 i' j (by omega) b⟩
      · unfold wp_Mo_isChain_197
        rw [e3, ← he]
        obtain ⟨g1, g2⟩ := hg.mp (bI_ne.mp c2)
        refine sp_Mo_touches h w h1 h2 he (by omega) (fun f => ⟨inR_lit1, fun _ => ih (i + 1) false (by omega) (by omega) ⟨fun f => absurd f (by decide), fun k => ?_⟩, fun k => absurd k (by decide)⟩) (fun f => ⟨inR_lit0, fun k => absurd rfl k, fun _ => ih (i + 1) true (by omega) (by omega) ⟨fun _ => ⟨g1, fun i' j a b k => ?_⟩, fun _ => rfl⟩⟩)
        · obtain ⟨j, a, b⟩ := f
          exact absurd b (k.2 i j (by omega) a)
        · by_cases ci : i' = i
          · rw [ci] at k; exact f ⟨j, b, k⟩
          · exact g2 i' j (by omega) b k
  have k166 : ∀ g : Bool, (g = true ↔ (ch_ends (aRing R l) (aRow R) e ∧ ch_in (aRing R l) (aRow R) e ∧ im_simple (aRow R) false)) → wp_Mo_isChain_166 post l ((aRow R).length : Int) (bI g) S := by
    intro g hg
    exact ⟨e + 2, l170 (e + 2) 0 g (by omega) (by omega) ⟨fun f => ⟨hg.mp f, fun i' j a => by omega⟩, fun f => hg.mpr f.1⟩⟩
  have l99 : ∀ (n k : Nat) (g : Bool), e + 1 - k < n → 1 ≤ k → k ≤ e → (g = true ↔ ch_ends (aRing R l) (aRow R) e ∧ ∀ i, 1 ≤ i → i < k → igd_in (aRing R l) (ig_add (ig_at (aRow R) i) (ig_at (aRow R) i))) → wp_Mo_isChain_99 post n l ((aRow R).length : Int) (bI g) k S := by
    intro n
    induction n with
    | zero => intro k g hn; omega
    | succ n ih =>
      intro k g hn k1 ke hg
      have e3 : (k : Int) + 1 = ((k + 1 : Nat) : Int) := by omega
      have ak := aK k ke
      unfold wp_Mo_isChain_99
      rw [Int.toNat_natCast, ak.1, ak.2]
      refine ⟨by unfold inR; omega, by unfold inR; omega, fun c1 => ⟨bI_in _, fun c2 => k166 false ⟨fun f => absurd f (by decide), fun f => ?_⟩, fun c2 => ?_⟩, fun c1 => ⟨bI_in _, fun c2 => ?_, fun c2 => ⟨⟨by omega, by omega⟩, ⟨by omega, by omega⟩, ?_⟩⟩⟩
      · rw [bI_0.mp c2] at hg
        exact hg.mpr ⟨f.1, fun i a b => f.2.1 i a (by omega)⟩
      · obtain ⟨g1, g2⟩ := hg.mp (bI_ne.mp c2)
        exact sp_Mo_isSimple hrow hK0 w.2.1.2 false (fun f => ⟨inR_lit1, fun q => absurd q (by decide), fun _ => k166 true ⟨fun _ => ⟨g1, fun i a b => g2 i a (by omega), f⟩, fun _ => rfl⟩⟩) (fun f => ⟨inR_lit0, fun _ => k166 false ⟨fun f => absurd f (by decide), fun q => absurd q.2.2 f⟩, fun q => absurd rfl q⟩)
      · unfold wp_Mo_isChain_142
        rw [e3]
        refine ih (k + 1) false (by omega) (by omega) (by omega) ⟨fun f => absurd f (by decide), fun f => ?_⟩
        rw [bI_0.mp c2] at hg
        exact hg.mpr ⟨f.1, fun i a b => f.2 i a (by omega)⟩
      · obtain ⟨g1, g2⟩ := hg.mp (bI_ne.mp c2)
        unfold wp_Mo_isChain_142
        rw [e3]
        have hz := ok_add (okK k) (okK k)
        rw [ig_add_self] at hz
        refine sp_Mo_isWithin (z := (2 * (ig_at (aRow R) k).1, 2 * (ig_at (aRow R) k).2)) h w h1 h2 hz (fun f => ⟨inR_lit1, fun q => absurd q (by decide), fun _ => ih (k + 1) true (by omega) (by omega) (by omega) ⟨fun _ => ⟨g1, fun i a b => ?_⟩, fun _ => rfl⟩⟩) (fun f => ⟨inR_lit0, fun _ => ih (k + 1) false (by omega) (by omega) (by omega) ⟨fun f => absurd f (by decide), fun q => ?_⟩, fun q => absurd rfl q⟩)
        · by_cases ci : i = k
          · rw [ci, ig_add_self]; exact f
          · exact g2 i a (by omega)
        · have := q.2 k (by omega) (by omega)
          rw [ig_add_self] at this
          exact absurd this f
  have k95 : ∀ g : Bool, (g = true ↔ ch_ends (aRing R l) (aRow R) e) → wp_Mo_isChain_95 post l ((aRow R).length : Int) (bI g) S := by
    intro g hg
    exact ⟨e + 2, l99 (e + 2) 1 g (by omega) (by omega) (by omega) ⟨fun f => ⟨hg.mp f, fun i a b => by omega⟩, fun f => hg.mpr f.1⟩⟩
  have e9 : ((aRow R).length : Int) - 1 = (e : Int) := by omega
  rw [e9, Int.toNat_natCast, a0.1, a0.2]
  have i0 := ok_in (okK 0)
  have ie := ok_in (okK e)
  have hlen : (aRing R l).length ≤ 60 := (w.rg h1 h2).2.1.2
  refine ⟨⟨by omega, by omega⟩, ⟨by omega, by omega⟩, sp_Mo_sideOf h w h1 h2 (okK 0) (fun i hi f => ?_) (fun f => ⟨⟨by decide, by decide⟩, fun _ => k95 false ⟨fun f => absurd f (by decide), fun q => ?_⟩, fun q => absurd (by decide) q⟩)⟩
  · refine ⟨by unfold inR; omega, fun c1 => by omega, fun _ => ⟨⟨by omega, by omega⟩, ⟨by omega, by omega⟩, ?_⟩⟩
    simp only [ae.1, ae.2]
    refine sp_Mo_sideOf h w h1 h2 (okK e) (fun j hj g => ?_) (fun g => ⟨⟨by decide, by decide⟩, fun _ => k95 false ⟨fun f => absurd f (by decide), fun q => ?_⟩, fun q => absurd (by decide) q⟩)
    · refine ⟨by unfold inR; omega, fun c1 => by omega, fun _ => ⟨⟨by omega, by omega⟩, ⟨by omega, by omega⟩, ?_⟩⟩
      simp only [ae.1, ae.2, a0.1, a0.2]
      exact ⟨i0.1, ie.1, fun c1 => k95 true ⟨fun _ => ⟨fun q => c1 (by rw [q]), ⟨i, hi, f⟩, j, hj, g⟩, fun _ => rfl⟩, fun c1 => ⟨⟨by omega, by omega⟩, ⟨by omega, by omega⟩, i0.2, ie.2, fun c2 => k95 false ⟨fun f => absurd f (by decide), fun q => absurd (Prod.ext c1 c2) q.1⟩, fun c2 => k95 true ⟨fun _ => ⟨fun q => c2 (by rw [q]), ⟨i, hi, f⟩, j, hj, g⟩, fun _ => rfl⟩⟩⟩
    · obtain ⟨j, hj, k⟩ := q.2.2
      exact absurd k (g j hj)
  · obtain ⟨j, hj, k⟩ := q.2.1
    exact absurd k (f j hj)
end CHN
