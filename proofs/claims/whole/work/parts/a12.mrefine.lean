/-! the reference: the two rings refined, joined -/
theorem ms_i_same (S : MS) (k : Nat) (v : Int) : (ms_i S k v).1 k = v := by simp [ms_i]
abbrev marA (S : MS) (M : List PT) : Prop := marr S 36 37 38 400 M
abbrev marB (S : MS) (M : List PT) : Prop := marr S 39 40 41 400 M
/-- frame of the arrays x or y -/
def mfA (a : Bool) (S S' : MS) : Prop := (∀ k, k ≠ (if a then 36 else 39) → S'.1 k = S.1 k) ∧ ∀ k, k ≠ (if a then 37 else 40) → k ≠ (if a then 38 else 41) → S'.2 k = S.2 k
theorem mfA_refl (a : Bool) (S : MS) : mfA a S S := ⟨fun _ _ => rfl, fun _ _ _ => rfl⟩
theorem mfA_trans {a : Bool} {S S' S2 : MS} (h : mfA a S S') (g : mfA a S' S2) : mfA a S S2 := ⟨fun k x => (g.1 k x).trans (h.1 k x), fun k x y => (g.2 k x y).trans (h.2 k x y)⟩
theorem mfA.fr {a : Bool} {S S' : MS} (h : mfA a S S') : mfr S S' := ⟨fun k x y => h.1 k (by cases a <;> simp <;> omega), fun k x y => h.2 k (by cases a <;> simp <;> omega) (by cases a <;> simp <;> omega)⟩
theorem mfA_a1 (a : Bool) (S : MS) (i v : Int) : mfA a S (ms_a S (if a then 37 else 40) i v) := ⟨fun _ _ => rfl, fun k x y => by funext t; show (if k = _ ∧ t = i.toNat then v else S.2 k t) = _; rw [if_neg (fun f => x f.1)]⟩
theorem mfA_a2 (a : Bool) (S : MS) (i v : Int) : mfA a S (ms_a S (if a then 38 else 41) i v) := ⟨fun _ _ => rfl, fun k x y => by funext t; show (if k = _ ∧ t = i.toNat then v else S.2 k t) = _; rw [if_neg (fun f => y f.1)]⟩
theorem mfA_i (a : Bool) (S : MS) (v : Int) : mfA a S (ms_i S (if a then 36 else 39) v) := ⟨fun k x => by show (if k = _ then v else S.1 k) = _; rw [if_neg x], fun _ _ _ => rfl⟩
/-- the first c points are written -/
def marX (a : Bool) (S : MS) (L : List PT) : Prop := ∀ k, k < L.length → S.2 (if a then 37 else 40) k = (ig_at L k).1 ∧ S.2 (if a then 38 else 41) k = (ig_at L k).2
theorem ig_step_eq {a b x cand c : PT} {s u : Rat} (hab : a ≠ b) (s0 : 0 ≤ s) (su : s < u) (u1 : u ≤ 1) (ex : ig_c x = gx_at (ig_c a) (ig_c b) s) (ec : ig_c cand = gx_at (ig_c a) (ig_c b) u) :
    (c ≠ x ∧ im_on x cand c = true) ↔ (c = cand ∨ (im_on a b c = true ∧ ig_d2 a x < ig_d2 a c ∧ ig_d2 a c < ig_d2 a cand)) := by
  have hn := ig_ne hab
  have hxc : ∀ y : Rat, gx_at (ig_c x) (ig_c cand) y = gx_at (ig_c a) (ig_c b) (s + y * (u - s)) := by
    intro y; rw [ex, ec]; simp only [gx_at]; apply Prod.ext <;> simp only [] <;> grind
  constructor
  · rintro ⟨h1, h2⟩
    obtain ⟨y, y0, y1, ey⟩ := (im_on_iff _ _ _).mp h2
    rw [hxc] at ey
    have p1 := Rat.mul_nonneg y0 (show 0 ≤ u - s by grind)
    have p2 := Rat.mul_nonneg (show 0 ≤ 1 - y by grind) (show 0 ≤ u - s by grind)
    have hy : y ≠ 0 := by
      intro f; rw [f, Rat.zero_mul, Rat.add_zero, ← ex] at ey
      exact h1 (ig_c_inj.mp ey.symm)
    have p3 := Rat.mul_pos (show 0 < y by grind) (show 0 < u - s by grind)
    by_cases f : y = 1
    · left
      rw [f] at ey
      have : s + 1 * (u - s) = u := by grind
      rw [this, ← ec] at ey
      exact (ig_c_inj.mp ey).symm
    · right
      have p4 := Rat.mul_pos (show 0 < 1 - y by grind) (show 0 < u - s by grind)
      refine ⟨(im_on_iff _ _ _).mpr ⟨s + y * (u - s), by grind, by grind, ey⟩, ?_, ?_⟩
      · rw [ig_d2_lt hab (t := s + y * (u - s)) (u := s) (by grind) s0 ey ex.symm]; grind
      · rw [ig_d2_lt hab (t := u) (u := s + y * (u - s)) (by grind) (by grind) ec.symm ey]; grind
  · rintro (h1 | ⟨h1, h2, h3⟩)
    · subst h1
      refine ⟨fun f => ?_, (im_on_iff _ _ _).mpr ⟨1, by grind, by grind, gx_at1 _ _⟩⟩
      rw [f, ex] at ec
      have := gx_at_inj hn ec
      grind
    · obtain ⟨v, v0, v1, ev⟩ := (im_on_iff _ _ _).mp h1
      rw [ig_d2_lt hab v0 s0 ev ex.symm] at h2
      rw [ig_d2_lt hab (by grind) v0 ec.symm ev] at h3
      refine ⟨fun f => ?_, (im_on_iff _ _ _).mpr ⟨(v - s) / (u - s), ?_, ?_, ?_⟩⟩
      · rw [f, ex] at ev
        have := gx_at_inj hn ev
        grind
      · exact (gx_divle (by grind) (show v - s ≤ u - s by grind) (by grind)).1
      · exact (gx_divle (by grind) (show v - s ≤ u - s by grind) (by grind)).2
      · rw [hxc, Rat.div_mul_cancel (by grind)]
        have : s + (v - s) = v := by grind
        rw [this]; exact ev
/-- the candidate after the first k corners of the other ring -/
def ig_nearK (O : List PT) (x b : PT) (k : Nat) : PT := (O.take k).foldl (fun nr c => if c ≠ x ∧ im_on x nr c = true then c else nr) b
theorem ig_nearK_succ {O : List PT} {x b : PT} {k : Nat} (hk : k < O.length) : ig_nearK O x b (k + 1) = if ig_at O k ≠ x ∧ im_on x (ig_nearK O x b k) (ig_at O k) = true then ig_at O k else ig_nearK O x b k := by
  unfold ig_nearK
  rw [List.take_succ_eq_append_getElem hk, List.foldl_append, ig_at_lt hk]; rfl
theorem ig_nearK_all (O : List PT) (x b : PT) : ig_nearK O x b O.length = ig_near O x b := by unfold ig_nearK ig_near; rw [List.take_length]
theorem ig_nearK_at {O : List PT} {x b : PT} (hxb : x ≠ b) (k : Nat) : ∃ v : Rat, 0 < v ∧ v ≤ 1 ∧ ig_c (ig_nearK O x b k) = gx_at (ig_c x) (ig_c b) v := by
  obtain ⟨v, v0, v1, e, _⟩ := ig_near_gen x b hxb (O.take k) b 1 (by grind) (by grind) (gx_at1 _ _).symm
  exact ⟨v, v0, v1, e⟩
section REF
variable {R : AR}
theorem sp_Mo_refine {post : MS → Prop} {S : MS} (h : MD S R) (w : WR R) {l o : Nat} (l1 : 1 ≤ l) (l2 : l ≤ R.1 7 0) (o1 : 1 ≤ o) (o2 : o ≤ R.1 7 0) (a : Bool) (hp : ∀ S', mfA a S S' → marr S' (if a then 36 else 39) (if a then 37 else 40) (if a then 38 else 41) 400 (ig_refine (aRing R l) (aRing R o)) → post S') : wp_Mo_refine post l o (bI a) S := by
  have hrl := w.rg l1 l2
  have hro := w.rg o1 o2
  have okl := fun k => w.ok l1 l2 k
  have oko := fun k => w.ok o1 o2 k
  have wl0 := w.1.1
  have n60 := hrl.2.1
  have m60 := hro.2.1
  have hs := hrl.2.2.1
  have hl0 := hrl.ne
  have hlenA : (ig_refine (aRing R l) (aRing R o)).length ≤ 120 := by
    have := ig_refine_len (O := aRing R o) hs hl0
    omega
  -- the inner loop: nearest
  have l156 : ∀ (k6 : Int → Int → Int → Int → Int → MS → Prop) (k73 : Int → Int → Int → Int → Int → Int → Int → Int → Int → Int → Int → Int → MS → Prop) (S1 : MS) (cnt k : Nat) (x : PT) (s : Rat), MD S1 R → ig_ok x → 0 ≤ s → s < 1 → ig_c x = gx_at (ig_c (ig_at (aRing R l) k)) (ig_c (ig_at (aRing R l) (k + 1))) s →
      k73 l o (bI a) cnt k (ig_at (aRing R l) k).1 (ig_at (aRing R l) k).2 (ig_at (aRing R l) (k + 1)).1 (ig_at (aRing R l) (k + 1)).2 (bI (decide (ig_near (aRing R o) x (ig_at (aRing R l) (k + 1)) ≠ ig_at (aRing R l) (k + 1)))) (if ig_near (aRing R o) x (ig_at (aRing R l) (k + 1)) = ig_at (aRing R l) (k + 1) then x else ig_near (aRing R o) x (ig_at (aRing R l) (k + 1))).1 (if ig_near (aRing R o) x (ig_at (aRing R l) (k + 1)) = ig_at (aRing R l) (k + 1) then x else ig_near (aRing R o) x (ig_at (aRing R l) (k + 1))).2 S1 →
      ∀ (n t : Nat), (aRing R o).length - t < n → t ≤ (aRing R o).length → wp_Mo_refine_156 post k6 k73 n l o (bI a) cnt k (ig_at (aRing R l) k).1 (ig_at (aRing R l) k).2 (ig_at (aRing R l) (k + 1)).1 (ig_at (aRing R l) (k + 1)).2 (ig_d2 (ig_at (aRing R l) k) x) (bI (decide (ig_nearK (aRing R o) x (ig_at (aRing R l) (k + 1)) t ≠ ig_at (aRing R l) (k + 1)))) (if ig_nearK (aRing R o) x (ig_at (aRing R l) (k + 1)) t = ig_at (aRing R l) (k + 1) then x else ig_nearK (aRing R o) x (ig_at (aRing R l) (k + 1)) t).1 (if ig_nearK (aRing R o) x (ig_at (aRing R l) (k + 1)) t = ig_at (aRing R l) (k + 1) then x else ig_nearK (aRing R o) x (ig_at (aRing R l) (k + 1)) t).2 (ig_d2 (ig_at (aRing R l) k) (ig_nearK (aRing R o) x (ig_at (aRing R l) (k + 1)) t)) t S1 := by
    intro k6 k73 S1 cnt k x s hS1 okx s0 s1 ex hk n
    have hab := rgn_ne hs hl0 k
    have hxb : x ≠ ig_at (aRing R l) (k + 1) := by
      intro f
      rw [f] at ex
      have := gx_at_inj (ig_ne hab) ((gx_at1 _ _).trans ex)
      grind
    have oka := okl k
    have okb := okl (k + 1)
    generalize ig_at (aRing R l) k = av at *
    generalize ig_at (aRing R l) (k + 1) = bv at *
    induction n with
    | zero => intro t hn; omega
    | succ n ih =>
      intro t hn ht
      have e1 : (t : Int) + 1 = ((t + 1 : Nat) : Int) := by omega
      unfold wp_Mo_refine_156
      rw [Int.toNat_natCast, (hS1.2.2.1 o o1 o2).1]
      refine ⟨⟨by omega, by omega⟩, by unfold inR; omega, by unfold inR; omega, fun c => ?_, fun c => ?_⟩
      · have et : t = (aRing R o).length := by omega
        rw [et, ig_nearK_all]; exact hk
      · have htt : t < (aRing R o).length := by omega
        obtain ⟨v, v0, v1, ev⟩ := ig_nearK_at (O := aRing R o) hxb t
        have okn : ig_ok (ig_nearK (aRing R o) x bv t) := by
          obtain ⟨_, _, _, _, e4, _⟩ := ig_near_gen x bv hxb ((aRing R o).take t) bv 1 (by grind) (by grind) (gx_at1 _ _).symm
          rcases e4 with f | f
          · unfold ig_nearK; rw [f]; exact okb
          · exact hro.1 _ (List.mem_of_mem_take f)
        have hsucc := ig_nearK_succ (x := x) (b := bv) htt
        have uu : ig_c (ig_nearK (aRing R o) x bv t) = gx_at (ig_c av) (ig_c bv) (s + v * (1 - s)) := by
          rw [ev, ex]; simp only [gx_at]; apply Prod.ext <;> simp only [] <;> grind
        have pv := Rat.mul_pos v0 (show 0 < 1 - s by grind)
        have pv2 := Rat.mul_nonneg (show 0 ≤ 1 - v by grind) (show 0 ≤ 1 - s by grind)
        have hstep := ig_step_eq (c := ig_at (aRing R o) t) hab s0 (show s < s + v * (1 - s) by grind) (by grind) ex uu
        have okc := oko t
        have b1 := ig_d2_bd oka okc
        have b2 := ig_d2_bd oka okx
        have b3 := ig_d2_bd oka okn
        have hbv : ig_d2 av (ig_nearK (aRing R o) x bv t) ≤ ig_d2 av bv := by
          have := ig_d2_lt hab (t := 1) (u := s + v * (1 - s)) (by grind) (by grind) (gx_at1 _ _) uu.symm
          by_cases f : s + v * (1 - s) < 1
          · have := this.mpr f; omega
          · have : s + v * (1 - s) = 1 := by grind
            rw [this, gx_at1] at uu
            rw [ig_c_inj.mp uu]; omega
        -- nothing new
        have stay : ¬ (im_on av bv (ig_at (aRing R o) t) = true ∧ ig_d2 av x < ig_d2 av (ig_at (aRing R o) t) ∧ ig_d2 av (ig_at (aRing R o) t) < ig_d2 av (ig_nearK (aRing R o) x bv t)) → ig_nearK (aRing R o) x bv (t + 1) = ig_nearK (aRing R o) x bv t := by
          intro f
          rw [hsucc]
          by_cases g : ig_at (aRing R o) t ≠ x ∧ im_on x (ig_nearK (aRing R o) x bv t) (ig_at (aRing R o) t) = true
          · rw [if_pos g]
            rcases hstep.mp g with q | q
            · exact q
            · exact absurd q f
          · rw [if_neg g]
        have hstay : ¬ (im_on av bv (ig_at (aRing R o) t) = true ∧ ig_d2 av x < ig_d2 av (ig_at (aRing R o) t) ∧ ig_d2 av (ig_at (aRing R o) t) < ig_d2 av (ig_nearK (aRing R o) x bv t)) → wp_Mo_refine_247 post k6 k73 (wp_Mo_refine_156 post k6 k73 n) l o (bI a) cnt k av.1 av.2 bv.1 bv.2 (ig_d2 av x) (bI (decide (ig_nearK (aRing R o) x bv t ≠ bv))) (if ig_nearK (aRing R o) x bv t = bv then x else ig_nearK (aRing R o) x bv t).1 (if ig_nearK (aRing R o) x bv t = bv then x else ig_nearK (aRing R o) x bv t).2 (ig_d2 av (ig_nearK (aRing R o) x bv t)) t S1 := by
          intro f
          have := ih (t + 1) (by omega) (by omega)
          rw [stay f] at this
          unfold wp_Mo_refine_247
          rw [e1]; exact this
        refine sp_Mo_cornerX hS1 w o1 o2 (by omega) (sp_Mo_cornerY hS1 w o1 o2 (by omega) (sp_Mo_apart oka okc (sp_Mo_isOn oka okb okc ⟨bI_in _, fun d1 => hstay (fun f => ?_), fun d1 => ⟨by unfold inL; omega, by unfold inL; omega, fun d2 => hstay (fun f => by omega), fun d2 => ⟨by unfold inL; omega, by unfold inL; omega, fun d3 => hstay (fun f => by omega), fun d3 => ?_⟩⟩⟩)))
        · rw [bI_0.mp d1] at f; exact absurd f.1 (by decide)
        · have hnew := hstep.mpr (Or.inr ⟨bI_ne.mp d1, by omega, by omega⟩)
          have e2 : ig_nearK (aRing R o) x bv (t + 1) = ig_at (aRing R o) t := by rw [hsucc, if_pos hnew]
          have hne : ig_at (aRing R o) t ≠ bv := by
            intro f; rw [f] at d3; omega
          have := ih (t + 1) (by omega) (by omega)
          rw [e2, if_neg hne, decide_eq_true hne] at this
          unfold wp_Mo_refine_247
          rw [e1]; exact this
  -- along one side
  have l73 : ∀ (k6 : Int → Int → Int → Int → Int → MS → Prop) (k : Nat) (L0 : List PT), (∀ S2, mfA a S S2 → marX a S2 (L0 ++ ig_rs (aRing R o) ((aRing R o).length + 1) (ig_at (aRing R l) k) (ig_at (aRing R l) (k + 1))) → k6 l o (bI a) ((L0 ++ ig_rs (aRing R o) ((aRing R o).length + 1) (ig_at (aRing R l) k) (ig_at (aRing R l) (k + 1))).length) ((k : Int) + 1) S2) → (L0 ++ ig_rs (aRing R o) ((aRing R o).length + 1) (ig_at (aRing R l) k) (ig_at (aRing R l) (k + 1))).length ≤ 120 →
      ∀ (n : Nat) (x : PT) (s : Rat) (L1 : List PT) (S1 : MS), ig_cnt (aRing R o) x (ig_at (aRing R l) (k + 1)) + 1 < n → ig_ok x → 0 ≤ s → s < 1 → ig_c x = gx_at (ig_c (ig_at (aRing R l) k)) (ig_c (ig_at (aRing R l) (k + 1))) s → mfA a S S1 → marX a S1 L1 → (∀ m, ig_cnt (aRing R o) x (ig_at (aRing R l) (k + 1)) < m → L1 ++ ig_rs (aRing R o) m x (ig_at (aRing R l) (k + 1)) = L0 ++ ig_rs (aRing R o) ((aRing R o).length + 1) (ig_at (aRing R l) k) (ig_at (aRing R l) (k + 1))) →
      wp_Mo_refine_73 post k6 n l o (bI a) L1.length k (ig_at (aRing R l) k).1 (ig_at (aRing R l) k).2 (ig_at (aRing R l) (k + 1)).1 (ig_at (aRing R l) (k + 1)).2 1 x.1 x.2 S1 := by
    intro k6 k L0 hk6 hlen n
    have hab := rgn_ne hs hl0 k
    induction n with
    | zero => intro x s L1 S1 hn; omega
    | succ n ih =>
      intro x s L1 S1 hn okx s0 s1 ex f1 f2 hL
      have hxb : x ≠ ig_at (aRing R l) (k + 1) := by
        intro f
        rw [f] at ex
        have := gx_at_inj (ig_ne hab) ((gx_at1 _ _).trans ex)
        grind
      have hL1 := hL (ig_cnt (aRing R o) x (ig_at (aRing R l) (k + 1)) + 1) (by omega)
      rw [ig_rs, if_neg hxb] at hL1
      have hl1 : L1.length < 120 := by
        have := congrArg List.length hL1
        simp only [List.length_append, List.length_cons] at this
        rw [List.length_append] at hlen
        omega
      -- behind the write
      have wr : ∀ S3, mfA a S1 S3 → marX a S3 (L1 ++ [x]) → wp_Mo_refine_121 post k6 (wp_Mo_refine_73 post k6 n) l o (bI a) L1.length k (ig_at (aRing R l) k).1 (ig_at (aRing R l) k).2 (ig_at (aRing R l) (k + 1)).1 (ig_at (aRing R l) (k + 1)).2 x.1 x.2 S3 := by
        intro S3 g1 g2
        have hS3 := h.fr (mfA_trans f1 g1).fr
        unfold wp_Mo_refine_121
        refine sp_Mo_apart (okl k) okx (sp_Mo_apart (okl k) (okl (k + 1)) ⟨(aRing R o).length + 1, ?_⟩)
        have e2 : ((L1.length : Nat) : Int) + 1 = (((L1 ++ [x]).length : Nat) : Int) := by simp
        rw [e2]
        have := l156 k6 (wp_Mo_refine_73 post k6 n) S3 (L1 ++ [x]).length k x s hS3 okx s0 s1 ex ?_ ((aRing R o).length + 1) 0 (by omega) (by omega)
        · have e0 : ig_nearK (aRing R o) x (ig_at (aRing R l) (k + 1)) 0 = ig_at (aRing R l) (k + 1) := rfl
          rw [e0, if_pos rfl, decide_eq_false (by simp)] at this
          exact this
        · by_cases c : ig_near (aRing R o) x (ig_at (aRing R l) (k + 1)) = ig_at (aRing R l) (k + 1)
          · rw [decide_eq_false (by simpa using c)]
            rw [c, ig_rs_nil] at hL1
            obtain ⟨n', hn'⟩ : ∃ n', n = n' + 1 := ⟨n - 1, by omega⟩
            rw [hn']
            unfold wp_Mo_refine_73
            refine ⟨inR_lit0, fun _ => ?_, fun q => absurd rfl q⟩
            have := hk6 S3 (mfA_trans f1 g1) (by rw [← hL1]; exact g2)
            rw [← hL1] at this
            exact this
          · rw [decide_eq_true c, if_neg c]
            obtain ⟨v, v0, v1, ev, ho, _⟩ := ig_near_spec hxb (aRing R o)
            have hcl := ig_cnt_lt hxb c
            have hv : v < 1 := by
              by_cases q : v < 1
              · exact q
              · exfalso
                have : v = 1 := by grind
                rw [this, gx_at1] at ev
                exact c (ig_c_inj.mp ev)
            have pv := Rat.mul_nonneg (Rat.le_of_lt v0) (show 0 ≤ 1 - s by grind)
            have pv2 := Rat.mul_pos (show 0 < 1 - v by grind) (show 0 < 1 - s by grind)
            refine ih (ig_near (aRing R o) x (ig_at (aRing R l) (k + 1))) (s + v * (1 - s)) (L1 ++ [x]) S3 (by omega) (hro.1 _ (ho.resolve_left c)) (by grind) (by grind) ?_ (mfA_trans f1 g1) g2 (fun m hm => ?_)
            · rw [ev, ex]; simp only [gx_at]; apply Prod.ext <;> simp only [] <;> grind
            · rw [List.append_assoc, List.singleton_append]
              have := hL (m + ig_cnt (aRing R o) x (ig_at (aRing R l) (k + 1)) + 1) (by omega)
              rw [ig_rs, if_neg hxb] at this
              rw [ig_rs_fuel m (m + ig_cnt (aRing R o) x (ig_at (aRing R l) (k + 1))) _ _ hm (by omega)]
              exact this
      have wx : ∀ S2 S3, S2 = ms_a S1 (if a then 37 else 40) L1.length x.1 → S3 = ms_a S2 (if a then 38 else 41) L1.length x.2 → mfA a S1 S3 ∧ marX a S3 (L1 ++ [x]) := by
        intro S2 S3 y2 y3
        refine ⟨by rw [y3, y2]; exact mfA_trans (mfA_a1 a _ _ _) (mfA_a2 a _ _ _), fun t ht => ?_⟩
        have ht' : t < L1.length + 1 := by simpa using ht
        have z1 : S3.2 (if a then 37 else 40) t = if t = L1.length then x.1 else S1.2 (if a then 37 else 40) t := by
          rw [y3, y2]; cases a <;> simp [ms_a]
        have z2 : S3.2 (if a then 38 else 41) t = if t = L1.length then x.2 else S1.2 (if a then 38 else 41) t := by
          rw [y3, y2]; cases a <;> simp [ms_a]
        rw [z1, z2]
        by_cases c : t = L1.length
        · rw [if_pos c, if_pos c, c, ig_at_app_last]; exact ⟨rfl, rfl⟩
        · rw [if_neg c, if_neg c, ig_at_app_lt (by omega)]; exact f2 t (by omega)
      unfold wp_Mo_refine_73
      refine ⟨inR_lit1, fun q => absurd q (by decide), fun _ => ⟨bI_in _, fun c => ⟨⟨by omega, by omega⟩, fun S2 y2 => ⟨⟨by omega, by omega⟩, fun S3 y3 => ?_⟩⟩, fun c => ⟨⟨by omega, by omega⟩, fun S2 y2 => ⟨⟨by omega, by omega⟩, fun S3 y3 => ?_⟩⟩⟩⟩
      · have := wx S2 S3 (by rw [bI_0.mp c]; exact y2) (by rw [bI_0.mp c]; exact y3)
        exact wr S3 this.1 this.2
      · have := wx S2 S3 (by rw [bI_ne.mp c]; exact y2) (by rw [bI_ne.mp c]; exact y3)
        exact wr S3 this.1 this.2
  -- all sides
  have l6 : ∀ (n k : Nat) (S1 : MS), (aRing R l).length - k < n → k ≤ (aRing R l).length → mfA a S S1 → marX a S1 ((List.range k).flatMap (fun i => ig_rs (aRing R o) ((aRing R o).length + 1) (ig_at (aRing R l) i) (ig_at (aRing R l) (i + 1)))) → wp_Mo_refine_6 post n l o (bI a) (((List.range k).flatMap (fun i => ig_rs (aRing R o) ((aRing R o).length + 1) (ig_at (aRing R l) i) (ig_at (aRing R l) (i + 1)))).length) k S1 := by
    intro n
    induction n with
    | zero => intro k S1 hn; omega
    | succ n ih =>
      intro k S1 hn hk f1 f2
      have hS1 := h.fr f1.fr
      have e1 : (k : Int) + 1 = ((k + 1 : Nat) : Int) := by omega
      unfold wp_Mo_refine_6
      rw [Int.toNat_natCast, (hS1.2.2.1 l l1 l2).1]
      refine ⟨⟨by omega, by omega⟩, by unfold inR; omega, by unfold inR; omega, fun c => ?_, fun c => ?_⟩
      · have ek : k = (aRing R l).length := by omega
        subst ek
        have fin : ∀ S2, S2 = ms_i S1 (if a then 36 else 39) (((List.range (aRing R l).length).flatMap (fun i => ig_rs (aRing R o) ((aRing R o).length + 1) (ig_at (aRing R l) i) (ig_at (aRing R l) (i + 1)))).length) → post S2 := by
          intro S2 y2
          refine hp S2 (mfA_trans f1 (by rw [y2]; exact mfA_i a _ _)) ⟨?_, by omega, fun t ht => ?_⟩
          · rw [y2]; exact ms_i_same _ _ _
          · have := f2 t ht
            rw [y2]
            exact this
        refine ⟨bI_in _, fun c2 S2 y2 => fin S2 (by rw [bI_0.mp c2]; exact y2), fun c2 S2 y2 => fin S2 (by rw [bI_ne.mp c2]; exact y2)⟩
      · have hk' : k < (aRing R l).length := by omega
        rw [e1]
        refine sp_Mo_cornerX hS1 w l1 l2 (by omega) (sp_Mo_cornerY hS1 w l1 l2 (by omega) (sp_Mo_cornerX hS1 w l1 l2 (by omega) (sp_Mo_cornerY hS1 w l1 l2 (by omega) ⟨(aRing R o).length + 2 + 1, ?_⟩)))
        have ef : (List.range (k + 1)).flatMap (fun i => ig_rs (aRing R o) ((aRing R o).length + 1) (ig_at (aRing R l) i) (ig_at (aRing R l) (i + 1))) = (List.range k).flatMap (fun i => ig_rs (aRing R o) ((aRing R o).length + 1) (ig_at (aRing R l) i) (ig_at (aRing R l) (i + 1))) ++ ig_rs (aRing R o) ((aRing R o).length + 1) (ig_at (aRing R l) k) (ig_at (aRing R l) (k + 1)) := by
          rw [List.range_succ, List.flatMap_append, List.flatMap_singleton]
        have hcnt := ig_cnt_le (aRing R o) (ig_at (aRing R l) k) (ig_at (aRing R l) (k + 1))
        refine l73 _ k ((List.range k).flatMap (fun i => ig_rs (aRing R o) ((aRing R o).length + 1) (ig_at (aRing R l) i) (ig_at (aRing R l) (i + 1)))) (fun S2 g1 g2 => ?_) ?_ _ (ig_at (aRing R l) k) 0 _ S1 (by omega) (okl k) (by grind) (by grind) (gx_at0 _ _).symm f1 f2 (fun m hm => by rw [ig_rs_fuel m ((aRing R o).length + 1) _ _ hm (by omega)])
        · rw [← ef] at g2 ⊢
          rw [e1]
          exact ih (k + 1) S2 (by omega) (by omega) g1 g2
        · rw [← ef]
          have : ((List.range (k + 1)).flatMap (fun i => ig_rs (aRing R o) ((aRing R o).length + 1) (ig_at (aRing R l) i) (ig_at (aRing R l) (i + 1)))).length ≤ (ig_refine (aRing R l) (aRing R o)).length := by
            unfold ig_refine
            have e9 : List.range (aRing R l).length = List.range (k + 1) ++ (List.range ((aRing R l).length - (k + 1))).map (fun x => (k + 1) + x) := by
              rw [← List.range_add]; congr 1; omega
            rw [e9, List.flatMap_append, List.length_append]
            omega
          omega
  unfold wp_Mo_refine
  exact ⟨(aRing R l).length + 1, l6 _ 0 S (by omega) (by omega) (mfA_refl a S) (fun k hk => by simp at hk)⟩
end REF
