/-! the way along a ring: class and reference go it alike -/
def ig_m (l : List PT) (i j : Nat) (p q : PT) : Nat := if i ≠ j then (j + l.length - i) % l.length else if ig_d2 (ig_at l i) q < ig_d2 (ig_at l i) p then l.length else 0
theorem ig_d2_t {a b p : PT} {t : Rat} (e : gx_at (ig_c a) (ig_c b) t = ig_c p) : ((ig_d2 a p : Int) : Rat) = t * t * ((ig_d2 a b : Int) : Rat) := by
  have e1 := congrArg Prod.fst e
  have e2 := congrArg Prod.snd e
  simp only [gx_at, ig_c] at e1 e2
  unfold ig_d2
  simp only [Rat.intCast_add, Rat.intCast_mul, Rat.intCast_sub]
  rw [← e1, ← e2]
  grind
theorem ig_d2_pos {a b : PT} (h : a ≠ b) : 0 < ((ig_d2 a b : Int) : Rat) := by
  have := gx_sq2 (ig_ne h)
  unfold ig_d2
  simp only [Rat.intCast_add, Rat.intCast_mul, Rat.intCast_sub]
  exact this
theorem ig_d2_lt {a b p q : PT} {t u : Rat} (h : a ≠ b) (t0 : 0 ≤ t) (u0 : 0 ≤ u) (e : gx_at (ig_c a) (ig_c b) t = ig_c p) (f : gx_at (ig_c a) (ig_c b) u = ig_c q) : ig_d2 a q < ig_d2 a p ↔ u < t := by
  rw [← ig_ltc, ig_d2_t e, ig_d2_t f]
  have hp := ig_d2_pos h
  generalize ((ig_d2 a b : Int) : Rat) = D at hp
  constructor
  · intro g
    refine Classical.byContradiction (fun k => ?_)
    have h1 := Rat.mul_nonneg (show 0 ≤ u - t by grind) (show 0 ≤ u + t by grind)
    have h2 := Rat.mul_nonneg h1 (Rat.le_of_lt hp)
    grind
  · intro g
    have h1 := Rat.mul_pos (show 0 < t - u by grind) (show 0 < t + u by grind)
    have h2 := Rat.mul_pos h1 hp
    grind
theorem ig_m_steps {l : List PT} (h : gx_simple (rgn l)) (h0 : l ≠ []) {i j : Nat} {p q : PT} (hi : i < l.length) (hj : j < l.length) (hp : ig_half l i p) (hq : ig_half l j q) (hne : p ≠ q) : ig_steps l i j p q (ig_m l i j p q) := by
  unfold ig_m
  by_cases c : i = j
  · subst c
    rw [if_neg (by simp)]
    obtain ⟨t, t0, t1, et⟩ := ig_half_t hp
    obtain ⟨u, u0, u1, eu⟩ := ig_half_t hq
    have hd := ig_d2_lt (rgn_ne h h0 i) t0 u0 et eu
    by_cases d : ig_d2 (ig_at l i) q < ig_d2 (ig_at l i) p
    · rw [if_pos d]
      exact Or.inr (Or.inr ⟨rfl, rfl, u, t, u0, hd.mp d, t1, eu, et⟩)
    · rw [if_neg d]
      refine Or.inr (Or.inl ⟨rfl, rfl, t, u, t0, ?_, u1, et, eu⟩)
      have h1 : ¬ u < t := fun f => d (hd.mpr f)
      have h2 : t ≠ u := by
        intro f; rw [f] at et
        exact hne (ig_c_inj.mp (et.symm.trans eu))
      grind
  · rw [if_pos c]
    left
    rcases Nat.lt_or_ge i j with d | d
    · have : (j + l.length - i) % l.length = j - i := by
        rw [show j + l.length - i = (j - i) + l.length by omega, Nat.add_mod_right, Nat.mod_eq_of_lt (by omega)]
      rw [this]
      exact ⟨by omega, by omega, by rw [show i + (j - i) = j by omega, Nat.mod_eq_of_lt hj]⟩
    · have : (j + l.length - i) % l.length = j + l.length - i := Nat.mod_eq_of_lt (by omega)
      rw [this]
      exact ⟨by omega, by omega, by rw [show i + (j + l.length - i) = j + l.length by omega, Nat.add_mod_right, Nat.mod_eq_of_lt hj]⟩
theorem ig_steps_le {l : List PT} {i j m : Nat} {p q : PT} (h : ig_steps l i j p q m) : m ≤ l.length := by
  rcases h with f | f | f <;> omega
/-- where the way ends -/
theorem ig_steps_end {l : List PT} {i j m k : Nat} {p q : PT} (hi : i < l.length) (h : ig_steps l i j p q m) (h1 : 0 < k) (h2 : k ≤ m) : (i + k) % l.length = j ↔ k = m := by
  have hm := ig_steps_le h
  have inj : ∀ x y, 0 < x → x ≤ l.length → 0 < y → y ≤ l.length → (i + x) % l.length = (i + y) % l.length → x = y := by
    intro x y x0 x1 y0 y1 e
    rcases Nat.le_total x y with c | c
    · have := mod_eq_of e (by omega) (by omega); omega
    · have := mod_eq_of e.symm (by omega) (by omega); omega
  rcases h with ⟨f1, f2, f3⟩ | ⟨f1, _⟩ | ⟨f1, f2, _⟩
  · constructor
    · intro g
      exact inj k m h1 (by omega) f1 (by omega) (g.trans f3.symm)
    · intro g; rw [g]; exact f3
  · omega
  · constructor
    · intro g
      refine inj k m h1 (by omega) (by omega) (by omega) (g.trans ?_)
      rw [f1, Nat.add_mod_right, ← f2, Nat.mod_eq_of_lt hi]
    · intro g
      rw [g, f1, Nat.add_mod_right, ← f2, Nat.mod_eq_of_lt hi]
theorem ig_seg_q {l : List PT} (h : gx_simple (rgn l)) (h0 : l ≠ []) {i j m : Nat} {p q : PT} (hi : i < l.length) (hj : j < l.length) (hq : ig_half l j q) (hm : ig_steps l i j p q m) :
    (ig_seg l i m).filter (fun x => decide (x ≠ q)) ++ [q] = if 0 < m ∧ ig_at l (i + m) = q then ig_seg l i m else ig_seg l i m ++ [q] := by
  have key : ∀ k, k < m → ig_at l (i + 1 + k) = q → k + 1 = m := by
    intro k hk e
    obtain ⟨e1, _⟩ := ig_corner_half h h0 hj hq e
    rw [show i + 1 + k = i + (k + 1) by omega] at e1
    exact (ig_steps_end hi hm (by omega) (by omega)).mp e1
  by_cases c : 0 < m ∧ ig_at l (i + m) = q
  · rw [if_pos c]
    obtain ⟨m', hm'⟩ : ∃ m', m = m' + 1 := ⟨m - 1, by omega⟩
    rw [hm', ig_seg_add]
    have e1 : ig_seg l (i + m') 1 = [q] := by
      simp only [ig_seg, List.range_one, List.map_cons, List.map_nil, Nat.add_zero]
      rw [show i + m' + 1 = i + m by omega, c.2]
    rw [e1, List.filter_append, filter_ne_id (fun f => ?_)]
    · simp
    · obtain ⟨k, hk, e⟩ := ig_seg_mem.mp f
      have := key k (by omega) e
      omega
  · rw [if_neg c, filter_ne_id (fun f => ?_)]
    obtain ⟨k, hk, e⟩ := ig_seg_mem.mp f
    have := key k hk e
    exact c ⟨by omega, by rw [show i + m = i + 1 + k by omega, e]⟩
section GOA
variable {S : MS} {R : AR}
theorem sp_Mo_goAlong {post : MS → Prop} (h : MD S R) (w : WR R) (hM : mmade S []) {l : Nat} (h1 : 1 ≤ l) (h2 : l ≤ R.1 7 0) {p q : PT} (okp : ig_ok p) (okq : ig_ok q) (hne : p ≠ q) {i j : Nat} (hi : i < (aRing R l).length) (hj : j < (aRing R l).length) (hp : ig_half (aRing R l) i p) (hq : ig_half (aRing R l) j q)
    (hpost : ∀ S', mfm S S' → mmade S' (p :: (ig_seg (aRing R l) i (ig_m (aRing R l) i j p q)).filter (fun x => decide (x ≠ q)) ++ [q]) → post S') : wp_Mo_goAlong post l p.1 p.2 q.1 q.2 S := by
  have hr := w.rg h1 h2
  have hs := hr.2.2.1
  have h0 := hr.ne
  have okl := fun k => w.ok h1 h2 k
  have wl0 := w.1.1
  have hst := ig_m_steps hs h0 hi hj hp hq hne
  have hmle := ig_steps_le hst
  have h60 := hr.2.1.2
  have hmdef : ig_m (aRing R l) i j p q = if i ≠ j then (j + (aRing R l).length - i) % (aRing R l).length else if ig_d2 (ig_at (aRing R l) i) q < ig_d2 (ig_at (aRing R l) i) p then (aRing R l).length else 0 := rfl
  have hsq := ig_seg_q hs h0 hi hj hq hst
  generalize ig_m (aRing R l) i j p q = m at *
  have iq := ok_in okq
  -- the loop
  have loop : ∀ (n c : Nat) (S1 : MS), m + 1 - c < n → c ≤ m → mfm S S1 → mmade S1 (p :: ig_seg (aRing R l) i c) → wp_Mo_goAlong_94 post n l q.1 q.2 (aRing R l).length j (((i + c) % (aRing R l).length : Nat) : Int) (bI (decide (c < m))) S1 := by
    intro n
    induction n with
    | zero => intro c S1 hn; omega
    | succ n ih =>
      intro c S1 hn hc f1 f2
      have hS1 := h.fr f1.fr
      have hlen : (p :: ig_seg (aRing R l) i c).length = c + 1 := by simp [ig_seg_len]
      unfold wp_Mo_goAlong_94
      refine ⟨bI_in _, fun c1 => ?_, fun c1 => ?_⟩
      · have ec : c = m := by
          have := of_decide_eq_false (bI_0.mp c1); omega
        subst ec
        rw [f2.1, hlen]
        have e1 : ((c + 1 : Nat) : Int) - 1 = (c : Int) := by omega
        rw [e1, Int.toNat_natCast]
        have hlast := f2.2.2 c (by rw [hlen]; omega)
        rw [hlast.1, hlast.2]
        have hlv : ig_at (p :: ig_seg (aRing R l) i c) c = if 0 < c then ig_at (aRing R l) (i + c) else p := by
          by_cases d : 0 < c
          · rw [if_pos d, ig_at_lt (by rw [hlen]; omega)]
            obtain ⟨c', hc'⟩ : ∃ c', c = c' + 1 := ⟨c - 1, by omega⟩
            subst hc'
            simp [ig_seg]
            congr 1; omega
          · rw [if_neg d, show c = 0 by omega]; simp [ig_at, ig_seg]
        have okv : ig_ok (ig_at (p :: ig_seg (aRing R l) i c) c) := by
          rw [hlv]; split
          · exact okl _
          · exact okp
        have iv := ok_in okv
        have fin2 : ig_at (p :: ig_seg (aRing R l) i c) c ≠ q → wp_Mo_goAlong_175 post q.1 q.2 S1 := by
          intro d
          unfold wp_Mo_goAlong_175
          refine sp_Mo_make f2 (by rw [hlen]; omega) (fun S' g1 g2 => hpost S' (mfm_trans f1 g1) ?_)
          have : ¬ (0 < c ∧ ig_at (aRing R l) (i + c) = q) := by
            intro k; rw [hlv, if_pos k.1] at d; exact d k.2
          rw [if_neg this] at hsq
          rw [List.cons_append, hsq]; exact g2
        refine ⟨⟨by omega, by omega⟩, iv.1, iq.1, fun d1 => fin2 (fun k => d1 (by rw [k])), fun d1 => ⟨⟨by omega, by omega⟩, iv.2, iq.2, fun d2 => ?_, fun d2 => fin2 (fun k => d2 (by rw [k]))⟩⟩
        have ev : ig_at (p :: ig_seg (aRing R l) i c) c = q := Prod.ext d1 d2
        rw [hlv] at ev
        have hc0 : 0 < c := by
          by_cases d : 0 < c
          · exact d
          · rw [if_neg d] at ev; exact absurd ev hne
        rw [if_pos hc0] at ev
        rw [if_pos ⟨hc0, ev⟩] at hsq
        refine hpost S1 f1 ?_
        rw [List.cons_append, hsq]; exact f2
      · have hcm : c < m := of_decide_eq_true (bI_ne.mp c1)
        have mm : (i + c) % (aRing R l).length < (aRing R l).length := Nat.mod_lt _ (by omega)
        refine ⟨⟨by omega, by omega⟩, fun v11 e11 => ?_⟩
        have e11' : v11 = (((i + (c + 1)) % (aRing R l).length : Nat) : Int) := by
          rw [e11, show (((i + c) % (aRing R l).length : Nat) : Int) + 1 = (((i + c) % (aRing R l).length + 1 : Nat) : Int) by omega, nmodc, Nat.mod_add_mod]; rfl
        have m2 : (i + (c + 1)) % (aRing R l).length < (aRing R l).length := Nat.mod_lt _ (by omega)
        rw [e11']
        refine sp_Mo_cornerX hS1 w h1 h2 (by omega) (sp_Mo_cornerY hS1 w h1 h2 (by omega) ?_)
        rw [ig_at_mod]
        refine sp_Mo_make f2 (by rw [hlen]; omega) (fun S2 g1 g2 => ?_)
        have g3 : mmade S2 (p :: ig_seg (aRing R l) i (c + 1)) := by
          rw [ig_seg_add]
          have : ig_seg (aRing R l) (i + c) 1 = [ig_at (aRing R l) (i + (c + 1))] := by simp [ig_seg, Nat.add_assoc]
          rw [this]; exact g2
        have he := ig_steps_end hi hst (k := c + 1) (by omega) (by omega)
        unfold wp_Mo_goAlong_138
        refine ⟨by unfold inR; omega, by unfold inR; omega, fun d1 => ?_, fun d1 => ?_⟩
        · have := ih (c + 1) S2 (by omega) (by omega) (mfm_trans f1 g1) g3
          rw [show decide (c + 1 < m) = false from decide_eq_false (by have := he.mp (by omega); omega)] at this
          exact this
        · have := ih (c + 1) S2 (by omega) (by omega) (mfm_trans f1 g1) g3
          rw [show decide (c + 1 < m) = true from decide_eq_true (by
            have : c + 1 ≠ m := fun f => d1 (by rw [he.mpr f])
            omega)] at this
          exact this
  have h92 : ∀ S1 (b : Bool), mfm S S1 → mmade S1 [p] → (b = true ↔ 0 < m) → wp_Mo_goAlong_92 post l q.1 q.2 (aRing R l).length j i (bI b) S1 := by
    intro S1 b f1 f2 hb
    have := loop (m + 2) 0 S1 (by omega) (by omega) f1 f2
    rw [show (i + 0) % (aRing R l).length = i from Nat.mod_eq_of_lt hi] at this
    have eb : decide (0 < m) = b := by
      cases b with
      | true => exact decide_eq_true (hb.mp rfl)
      | false => exact decide_eq_false (fun f => absurd (hb.mpr f) (by decide))
    rw [eb] at this
    exact ⟨m + 2, this⟩
  unfold wp_Mo_goAlong
  rw [Int.toNat_natCast, (h.2.2.1 l h1 h2).1]
  refine ⟨⟨by omega, by omega⟩, fun v6 e6 => ?_⟩
  rw [e6]
  have huq := @ig_half_uniq (aRing R l) hs
  refine sp_Mo_sideOf h w h1 h2 okp (fun i' hi' g => ?_) (fun g => absurd hp (g i hi))
  have ei := huq hi' hi g hp
  subst ei
  refine sp_Mo_sideOf h w h1 h2 okq (fun j' hj' g => ?_) (fun g => absurd hq (g j hj))
  have ej := huq hj' hj g hq
  subst ej
  refine sp_Mo_make hM (by simp) (fun S1 f1 f2 => ?_)
  have hS1 := h.fr f1.fr
  refine sp_Mo_cornerX hS1 w h1 h2 (by omega) (sp_Mo_cornerY hS1 w h1 h2 (by omega) ?_)
  have b1 := ig_d2_bd (okl i') okp
  have b2 := ig_d2_bd (okl i') okq
  refine ⟨by unfold inR; omega, by unfold inR; omega, fun c1 => h92 S1 true f1 f2 ⟨fun _ => ?_, fun _ => rfl⟩, fun c1 => sp_Mo_apart (okl i') okp (sp_Mo_apart (okl i') okq ⟨by unfold inL; omega, by unfold inL; omega, fun c2 => h92 S1 false f1 f2 ⟨fun f => absurd f (by decide), fun f => ?_⟩, fun c2 => h92 S1 true f1 f2 ⟨fun _ => ?_, fun _ => rfl⟩⟩)⟩
  · rcases hst with f | f | f <;> omega
  · rw [if_neg (by omega), if_neg (by omega)] at hmdef; omega
  · rw [if_neg (by omega), if_pos (by omega)] at hmdef; omega
def ig_int (K : List PT) (e : Nat) (part : Bool) : List PT := (List.range (e - 1)).map (fun k => ig_at K (if part then k + 1 else e - 1 - k))
theorem sp_Mo_makePart {post : MS → Prop} (h : MD S R) (w : WR R) {l : Nat} (h1 : 1 ≤ l) (h2 : l ≤ R.1 7 0) {e : Nat} (he : (aRow R).length = e + 1) (he0 : 0 < e) (part : Bool) {p q : PT} (ep : p = ig_at (aRow R) (if part then e else 0)) (eq : q = ig_at (aRow R) (if part then 0 else e)) (hne : p ≠ q) {i j : Nat} (hi : i < (aRing R l).length) (hj : j < (aRing R l).length) (hp : ig_half (aRing R l) i p) (hq : ig_half (aRing R l) j q) {P : List PT}
    (hP : P = p :: (ig_seg (aRing R l) i (ig_m (aRing R l) i j p q)).filter (fun x => decide (x ≠ q)) ++ q :: ig_int (aRow R) e part) (hs : gx_simple (rgn P))
    (hpost : ∀ S' T, mfm S S' → mmade S' T → rote (ig_flt (ig_or P)) T → post S') : wp_Mo_makePart post l (bI part) S := by
  have hK0 : aRow R ≠ [] := by intro f; rw [f] at he; simp at he
  have okK := ig_at_ok w.2.1.2 hK0
  have okl := fun k => w.ok h1 h2 k
  have h32 := w.2.1.1
  have hrow := h.2.1
  have hr := w.rg h1 h2
  have okp : ig_ok p := by rw [ep]; exact okK _
  have okq : ig_ok q := by rw [eq]; exact okK _
  have hmle := ig_steps_le (ig_m_steps hr.2.2.1 hr.ne hi hj hp hq hne)
  have hW : ((ig_seg (aRing R l) i (ig_m (aRing R l) i j p q)).filter (fun x => decide (x ≠ q))).length ≤ 60 := by
    have := List.length_filter_le (fun x => decide (x ≠ q)) (ig_seg (aRing R l) i (ig_m (aRing R l) i j p q))
    rw [ig_seg_len] at this
    have := hr.2.1.2
    omega
  have okP : ∀ x ∈ P, ig_ok x := by
    intro x hx
    rw [hP] at hx
    rcases List.mem_append.mp hx with f | f
    · rcases List.mem_cons.mp f with f | f
      · rw [f]; exact okp
      · obtain ⟨k, _, e⟩ := ig_seg_mem.mp (List.mem_filter.mp f).1
        rw [← e]; exact okl _
    · rcases List.mem_cons.mp f with f | f
      · rw [f]; exact okq
      · unfold ig_int at f
        obtain ⟨k, _, e⟩ := List.mem_map.mp f
        rw [← e]; exact okK _
  generalize hA : (ig_seg (aRing R l) i (ig_m (aRing R l) i j p q)).filter (fun x => decide (x ≠ q)) = A at *
  have loop : ∀ (n k : Nat) (S1 : MS), e - k < n → 1 ≤ k → k ≤ e → mfm S S1 → mmade S1 (p :: A ++ q :: (List.range (k - 1)).map (fun k => ig_at (aRow R) (if part then k + 1 else e - 1 - k))) → wp_Mo_makePart_65 post n (bI part) e k S1 := by
    intro n
    induction n with
    | zero => intro k S1 hn; omega
    | succ n ih =>
      intro k S1 hn k1 ke f1 f2
      have e1 : (k : Int) + 1 = ((k + 1 : Nat) : Int) := by omega
      have hS1 := h.fr f1.fr
      have hrow1 := hS1.2.1
      unfold wp_Mo_makePart_65
      refine ⟨by unfold inR; omega, by unfold inR; omega, fun c => ?_, fun c => ?_⟩
      · have ek : k = e := by omega
        subst ek
        have hPM : mmade S1 P := by rw [hP]; exact f2
        exact sp_Mo_tidy hPM (by rw [hP]; simp) okP hs (fun S' T g1 g2 g3 => hpost S' T (mfm_trans f1 g1) g2 g3)
      · have len : (p :: A ++ q :: (List.range (k - 1)).map (fun k => ig_at (aRow R) (if part then k + 1 else e - 1 - k))).length ≤ 93 := by simp; omega
        have mk : ∀ a : Nat, a = (if part then k else e - k) → wp_Mo_makePart_84 post (wp_Mo_makePart_65 post n) (bI part) e k a S1 := by
          intro a ha
          have hae : a ≤ e := by rw [ha]; split <;> omega
          have x := hrow1.2.2 a (by omega)
          unfold wp_Mo_makePart_84
          rw [Int.toNat_natCast, x.1, x.2, e1]
          refine ⟨⟨by omega, by omega⟩, ⟨by omega, by omega⟩, sp_Mo_make f2 (by omega) (fun S2 g1 g2 => ih (k + 1) S2 (by omega) (by omega) (by omega) (mfm_trans f1 g1) ?_)⟩
          have : (List.range (k + 1 - 1)).map (fun k => ig_at (aRow R) (if part then k + 1 else e - 1 - k)) = (List.range (k - 1)).map (fun k => ig_at (aRow R) (if part then k + 1 else e - 1 - k)) ++ [ig_at (aRow R) a] := by
            rw [show k + 1 - 1 = (k - 1) + 1 by omega, List.range_succ, List.map_append]
            congr 2
            simp only [List.map_cons, List.map_nil]
            congr 2
            rw [ha]
            split <;> omega
          rw [this]
          simpa using g2
        refine ⟨bI_in _, fun c2 => mk k ?_, fun c2 => ?_⟩
        · rw [bI_ne.mp c2]; rfl
        · have := mk (e - k) (by rw [bI_0.mp c2]; rfl)
          rw [show (e : Int) - (k : Int) = ((e - k : Nat) : Int) by omega]
          exact this
  have k16 : ∀ s : Nat, s = (if part then e else 0) → wp_Mo_makePart_16 post l (bI part) e s S := by
    intro s hs0
    have hse : s ≤ e := by rw [hs0]; split <;> omega
    unfold wp_Mo_makePart_16
    intro v5 e5 S2 e2
    have e5' : v5 = ((e - s : Nat) : Int) := by omega
    rw [e5']
    have f2 : mfm S S2 := by rw [e2]; exact mfm_i _ _
    have hS2 := h.fr f2.fr
    have hrow2 := hS2.2.1
    have x := hrow2.2.2 s (by omega)
    have y := hrow2.2.2 (e - s) (by omega)
    simp only [Int.toNat_natCast]
    rw [x.1, x.2, y.1, y.2]
    have xs : ig_at (aRow R) s = p := by rw [ep, hs0]
    have ys : ig_at (aRow R) (e - s) = q := by
      rw [eq, hs0]; congr 1; cases part <;> simp
    rw [xs, ys]
    have hM0 : mmade S2 [] := ⟨by rw [e2]; simp [ms_i], by simp, fun k hk => by simp at hk⟩
    refine ⟨⟨by omega, by omega⟩, ⟨by omega, by omega⟩, ⟨by omega, by omega⟩, ⟨by omega, by omega⟩, sp_Mo_goAlong hS2 w hM0 h1 h2 okp okq hne hi hj hp hq (fun S3 g1 g2 => ⟨e + 1, loop (e + 1) 1 S3 (by omega) (by omega) (by omega) (mfm_trans f2 g1) ?_⟩)⟩
    rw [hA] at g2
    simpa using g2
  unfold wp_Mo_makePart
  rw [hrow.1]
  intro v3 e3
  have e3' : v3 = (e : Int) := by omega
  rw [e3']
  exact ⟨bI_in _, fun c => k16 e (by rw [bI_ne.mp c]; rfl), fun c => k16 0 (by rw [bI_0.mp c]; rfl)⟩
end GOA
