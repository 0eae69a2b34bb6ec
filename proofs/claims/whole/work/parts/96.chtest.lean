/-! the chain's tests of class and reference are one; from them the split -/
def ig_add (a b : PT) : PT := (a.1 + b.1, a.2 + b.2)
/-- class: sides i of the chain, j of the ring -/
def ch_meet (l K : List PT) (e i j : Nat) : Prop := ic_meeting (ig_at K i) (ig_at K (i + 1)) (ig_at l j) (ig_at l (j + 1)) ≠ 2 ∧ (ic_meeting (ig_at K i) (ig_at K (i + 1)) (ig_at l j) (ig_at l (j + 1)) = 1 → (i = 0 ∧ ic_lies (ig_at K 0) (ig_at l j) (ig_at l (j + 1)) = true) ∨ (i + 1 = e ∧ ic_lies (ig_at K e) (ig_at l j) (ig_at l (j + 1)) = true))
/-- reference -/
def cm_touch (l K : List PT) (e i j : Nat) : Prop := im_meet (ig_at K i) (ig_at K (i + 1)) (ig_at l j) (ig_at l (j + 1)) = true ∧ ((ig_turn (ig_at K i) (ig_at K (i + 1)) (ig_at l j) = 0 ∧ ig_turn (ig_at K i) (ig_at K (i + 1)) (ig_at l (j + 1)) = 0 ∧ im_over (ig_at K i) (ig_at K (i + 1)) (ig_at l j) (ig_at l (j + 1)) = true) ∨ (¬ (i = 0 ∧ im_on (ig_at l j) (ig_at l (j + 1)) (ig_at K i) = true) ∧ ¬ (i + 1 = e ∧ im_on (ig_at l j) (ig_at l (j + 1)) (ig_at K (i + 1)) = true)))
def ch_ends (l K : List PT) (e : Nat) : Prop := ig_at K 0 ≠ ig_at K e ∧ (∃ i, i < l.length ∧ ig_half l i (ig_at K 0)) ∧ ∃ j, j < l.length ∧ ig_half l j (ig_at K e)
def ch_in (l K : List PT) (e : Nat) : Prop := ∀ i, 1 ≤ i → i < e → igd_in l (ig_add (ig_at K i) (ig_at K i))
def ch_ok (l K : List PT) (e : Nat) : Prop := ch_ends l K e ∧ ch_in l K e ∧ ic_simple K false ∧ (∀ i j, i < e → j < l.length → ch_meet l K e i j) ∧ igd_in l (ig_add (ig_at K 0) (ig_at K 1))
def cm_ok (l K : List PT) (e : Nat) : Prop := ch_ends l K e ∧ ch_in l K e ∧ im_simple K false ∧ (∀ i j, i < e → j < l.length → ¬ cm_touch l K e i j) ∧ (1 < e ∨ igd_in l (ig_add (ig_at K 0) (ig_at K 1)))
section CH
variable {l K : List PT} {e : Nat}
theorem ch_touch (hl : ∀ p ∈ l, ig_ok p) (hK : ∀ p ∈ K, ig_ok p) (hs : gx_simple (rgn l)) (h0 : l ≠ []) (he : K.length = e + 1) (hz : ∀ i, i < e → ig_at K i ≠ ig_at K (i + 1)) {i j : Nat} (hi : i < e) (hj : j < l.length) : ch_meet l K e i j ↔ ¬ cm_touch l K e i j := by
  have k0 : K ≠ [] := by intro f; rw [f] at he; simp at he
  have okl := ig_at_ok hl h0
  have okK := ig_at_ok hK k0
  have hzi := hz i hi
  have hnl := rgn_ne hs h0 j
  unfold ch_meet cm_touch
  have m0 := ic_meeting_meet (okK i) (okK (i + 1)) (okl j) (okl (j + 1)) hzi hnl
  have m2 := ic_meeting2 (okK i) (okK (i + 1)) (okl j) (okl (j + 1)) hzi
  have m3 := ic_meeting_012 (ig_at K i) (ig_at K (i + 1)) (ig_at l j) (ig_at l (j + 1))
  have l1 : ic_lies (ig_at K 0) (ig_at l j) (ig_at l (j + 1)) = im_on (ig_at l j) (ig_at l (j + 1)) (ig_at K 0) := ic_lies_eq (okK _) (okl _) (okl _)
  have l2 : ic_lies (ig_at K e) (ig_at l j) (ig_at l (j + 1)) = im_on (ig_at l j) (ig_at l (j + 1)) (ig_at K e) := ic_lies_eq (okK _) (okl _) (okl _)
  rw [l1, l2]
  have r1 : (i = 0 ∧ im_on (ig_at l j) (ig_at l (j + 1)) (ig_at K 0) = true) ↔ (i = 0 ∧ im_on (ig_at l j) (ig_at l (j + 1)) (ig_at K i) = true) := by
    constructor <;> rintro ⟨f, g⟩
    · subst f; exact ⟨rfl, g⟩
    · subst f; exact ⟨rfl, g⟩
  have r2 : (i + 1 = e ∧ im_on (ig_at l j) (ig_at l (j + 1)) (ig_at K e) = true) ↔ (i + 1 = e ∧ im_on (ig_at l j) (ig_at l (j + 1)) (ig_at K (i + 1)) = true) := by
    constructor <;> rintro ⟨f, g⟩
    · subst f; exact ⟨rfl, g⟩
    · subst f; exact ⟨rfl, g⟩
  rw [r1, r2]
  generalize (i = 0 ∧ im_on (ig_at l j) (ig_at l (j + 1)) (ig_at K i) = true) = P at *
  generalize (i + 1 = e ∧ im_on (ig_at l j) (ig_at l (j + 1)) (ig_at K (i + 1)) = true) = Q at *
  rw [← m2]
  generalize ic_meeting (ig_at K i) (ig_at K (i + 1)) (ig_at l j) (ig_at l (j + 1)) = x at *
  have hm : im_meet (ig_at K i) (ig_at K (i + 1)) (ig_at l j) (ig_at l (j + 1)) = true ↔ x ≠ 0 := by
    cases h : im_meet (ig_at K i) (ig_at K (i + 1)) (ig_at l j) (ig_at l (j + 1)) with
    | true => simp only [h] at m0; simp; intro f; have := m0.mp f; cases this
    | false => simp only [h] at m0; simp; exact m0.mpr trivial
  rw [hm]
  constructor
  · rintro ⟨f1, f2⟩ ⟨g1, g2⟩
    rcases g2 with g | g
    · exact f1 g
    · rcases f2 (by omega) with k | k
      · exact g.1 k
      · exact g.2 k
  · intro f
    refine ⟨fun g => f ⟨by omega, Or.inl g⟩, fun g => ?_⟩
    by_cases p1 : P
    · exact Or.inl p1
    · by_cases q1 : Q
      · exact Or.inr q1
      · exact absurd ⟨by omega, Or.inr ⟨p1, q1⟩⟩ f
/-- a point of a chain's side that lies on the ring is the chain's begin or end -/
theorem ch_common (hl : ∀ p ∈ l, ig_ok p) (hK : ∀ p ∈ K, ig_ok p) (hs : gx_simple (rgn l)) (h0 : l ≠ []) (he : K.length = e + 1) (hz : ∀ i, i < e → ig_at K i ≠ ig_at K (i + 1)) (hm : ∀ i j, i < e → j < l.length → ch_meet l K e i j) {i : Nat} (hi : i < e) {z : Rat × Rat} (h1 : gx_on (ig_c (ig_at K i)) (ig_c (ig_at K (i + 1))) z) (h2 : rgn_pt l z) : (i = 0 ∧ z = ig_c (ig_at K 0)) ∨ (i + 1 = e ∧ z = ig_c (ig_at K e)) := by
  have k0 : K ≠ [] := by intro f; rw [f] at he; simp at he
  have okl := ig_at_ok hl h0
  have okK := ig_at_ok hK k0
  obtain ⟨s, hs', h2⟩ := h2
  obtain ⟨j, hj, es⟩ := rgn_mem.mp hs'
  rw [es] at h2
  have h2 : gx_on (ig_c (ig_at l j)) (ig_c (ig_at l (j + 1))) z := h2
  obtain ⟨m1, m2⟩ := hm i j hi hj
  have m3 := ic_meeting_012 (ig_at K i) (ig_at K (i + 1)) (ig_at l j) (ig_at l (j + 1))
  have m0 : ic_meeting (ig_at K i) (ig_at K (i + 1)) (ig_at l j) (ig_at l (j + 1)) ≠ 0 := by
    intro f
    rw [ic_meeting_iff (okK _) (okK _) (okl _) (okl _) (hz i hi) (rgn_ne hs h0 j)] at f
    obtain ⟨t, t0, t1, e1⟩ := h1
    obtain ⟨u, u0, u1, e2⟩ := h2
    exact f t u t0 t1 u0 u1 (e1.trans e2.symm)
  have m4 : ic_meeting (ig_at K i) (ig_at K (i + 1)) (ig_at l j) (ig_at l (j + 1)) = 1 := by omega
  rcases m2 m4 with ⟨f1, f2⟩ | ⟨f1, f2⟩
  · left
    refine ⟨f1, ?_⟩
    subst f1
    refine ic_meet1 (okK _) (okK _) (okl _) (okl _) (hz 0 hi) m4 h1 h2 ⟨0, by grind, by grind, gx_at0 _ _⟩ ((ic_lies_iff (okK _) (okl _) (okl _)).mp f2)
  · right
    refine ⟨f1, ?_⟩
    rw [← f1] at f2 ⊢
    refine ic_meet1 (okK _) (okK _) (okl _) (okl _) (hz i hi) m4 h1 h2 ⟨1, by grind, by grind, gx_at1 _ _⟩ ((ic_lies_iff (okK _) (okl _) (okl _)).mp f2)
theorem ig_h_mid (a b : PT) : ig_h (ig_add a b) = gx_at (ig_c a) (ig_c b) (1/2) := by
  unfold ig_h ig_add gx_at ig_c
  simp only [Rat.intCast_add]
  apply Prod.ext
  · show ((a.1 : Rat) + (b.1 : Rat)) / 2 = (a.1 : Rat) + 1 / 2 * ((b.1 : Rat) - (a.1 : Rat)); grind
  · show ((a.2 : Rat) + (b.2 : Rat)) / 2 = (a.2 : Rat) + 1 / 2 * ((b.2 : Rat) - (a.2 : Rat)); grind
theorem ig_h_two (a : PT) : ig_h (ig_add a a) = ig_c a := by
  rw [ig_h_mid]; simp only [gx_at]; apply Prod.ext <;> simp only [] <;> grind
theorem igd_onR_c (l : List PT) (z : PT) : igd_onR l z ↔ rgn_pt l (ig_h z) := by
  constructor
  · rintro ⟨i, hi, h⟩
    exact ⟨_, rgn_mem.mpr ⟨i, hi, rfl⟩, (igd_on_c _ _ _).mp h⟩
  · rintro ⟨s, hs, h⟩
    obtain ⟨i, hi, e⟩ := rgn_mem.mp hs
    rw [e] at h
    exact ⟨i, hi, (igd_on_c _ _ _).mpr h⟩
theorem igd_in_iff (hs : gx_simple (rgn l)) (hw : ∀ z, 0 ≤ gx_wn (rgn l) z) (h0 : l ≠ []) (z : PT) : igd_in l z ↔ ¬ rgn_pt l (ig_h z) ∧ gx_wn (rgn l) (ig_h z) = 1 := by
  unfold igd_in
  rw [igd_onR_c, igd_in_wn hs hw h0]
theorem ch_mid (hl : ∀ p ∈ l, ig_ok p) (hK : ∀ p ∈ K, ig_ok p) (hs : gx_simple (rgn l)) (hw : ∀ z, 0 ≤ gx_wn (rgn l) z) (h0 : l ≠ []) (he : K.length = e + 1) (hz : ∀ i, i < e → ig_at K i ≠ ig_at K (i + 1)) (hm : ∀ i j, i < e → j < l.length → ch_meet l K e i j) (he1 : 1 < e) (hin : ch_in l K e) : igd_in l (ig_add (ig_at K 0) (ig_at K 1)) := by
  have h1 := (igd_in_iff hs hw h0 _).mp (hin 1 (by omega) he1)
  rw [ig_h_two] at h1
  rw [igd_in_iff hs hw h0, ig_h_mid]
  have hne := ig_ne (hz 0 (by omega))
  have cm : ∀ x : Rat, 1/2 ≤ x → x ≤ 1 → ¬ rgn_pt l (gx_at (ig_c (ig_at K 0)) (ig_c (ig_at K 1)) x) := by
    intro x x0 x1 f
    rcases ch_common hl hK hs h0 he hz hm (show 0 < e by omega) ⟨x, by grind, x1, rfl⟩ f with ⟨_, g⟩ | ⟨g, _⟩
    · have := gx_at_inj hne (g.trans (gx_at0 _ _).symm)
      grind
    · omega
  refine ⟨cm _ (by grind) (by grind), ?_⟩
  obtain ⟨a, ha⟩ := hs.2.2
  rw [← h1.2]
  refine gx_ring ha (fun s hs t u t0 t1 u0 u1 k => ?_)
  refine cm (1/2 + u * (1 - 1/2)) ?_ ?_ ⟨s, hs, t, t0, t1, ?_⟩
  · grind
  · grind
  · rw [k, gx_sub2 rfl]
theorem ch_iff (hl : ∀ p ∈ l, ig_ok p) (hK : ∀ p ∈ K, ig_ok p) (hs : gx_simple (rgn l)) (hw : ∀ z, 0 ≤ gx_wn (rgn l) z) (h0 : l ≠ []) (he : K.length = e + 1) (he0 : 0 < e) : ch_ok l K e ↔ cm_ok l K e := by
  unfold ch_ok cm_ok
  rw [ig_simple_iff hK false (by intro f; cases f)]
  refine and_congr_right (fun c1 => and_congr_right (fun c2 => and_congr_right (fun c3 => ?_)))
  have hz : ∀ i, i < e → ig_at K i ≠ ig_at K (i + 1) := fun i hi => c3.1 i (by simp; omega)
  have ht : (∀ i j, i < e → j < l.length → ch_meet l K e i j) ↔ ∀ i j, i < e → j < l.length → ¬ cm_touch l K e i j :=
    forall_congr' (fun i => forall_congr' (fun j => forall_congr' (fun hi => forall_congr' (fun hj => ch_touch hl hK hs h0 he hz hi hj))))
  rw [← ht]
  refine and_congr_right (fun c4 => ?_)
  constructor
  · exact Or.inr
  · rintro (f | f)
    · exact ch_mid hl hK hs hw h0 he hz c4 f c2
    · exact f
end CH
/-- both pieces of a split -/
theorem ch_split {l I : List PT} {p q : PT} (hl : ∀ p ∈ l, ig_ok p) (hK : ∀ x ∈ p :: (I ++ [q]), ig_ok x) (hs : gx_simple (rgn l)) (hw : ∀ z, 0 ≤ gx_wn (rgn l) z) (h0 : l ≠ []) (h : ch_ok l (p :: (I ++ [q])) (I.length + 1)) {i j m : Nat} (hi : i < l.length) (hj : j < l.length) (hp : ig_half l i p) (hq : ig_half l j q) (hm : ig_steps l i j p q m) {A B : List PT}
    (hA : A = (ig_seg l i m).filter (fun x => decide (x ≠ q))) (hB : B = (ig_seg l (i + m) (l.length - m)).filter (fun x => decide (x ≠ p))) :
    (gx_simple (rgn (p :: A ++ q :: I.reverse)) ∧ ∀ z, 0 ≤ gx_wn (rgn (p :: A ++ q :: I.reverse)) z) ∧ (gx_simple (rgn (q :: B ++ p :: I)) ∧ ∀ z, 0 ≤ gx_wn (rgn (q :: B ++ p :: I)) z) ∧
    ∀ z, gx_wn (rgn (p :: A ++ q :: I.reverse)) z + gx_wn (rgn (q :: B ++ p :: I)) z = gx_wn (rgn l) z := by
  have e0 : ig_at (p :: (I ++ [q])) 0 = p := by simp [ig_at]
  have e1 : ig_at (p :: (I ++ [q])) (I.length + 1) = q := by rw [ig_at_lt (by simp)]; simp
  obtain ⟨c1, c2, c3, c4, c5⟩ := h
  have hne : p ≠ q := by have := c1.1; rwa [e0, e1] at this
  have hz : ∀ i, i < I.length + 1 → ig_at (p :: (I ++ [q])) i ≠ ig_at (p :: (I ++ [q])) (i + 1) := fun i hi => c3.1 i (by simp; omega)
  refine ig_split hs hw h0 hi hj hp hq hne hm (chn_open hK c3) (fun s hs' z h1 h2 => ?_) ?_ hA hB
  · obtain ⟨k, hk, es⟩ := chn_mem.mp hs'
    rw [es] at h1
    rcases ch_common hl hK hs h0 (by simp) hz c4 hk h1 h2 with ⟨_, f⟩ | ⟨_, f⟩
    · rw [e0] at f; exact Or.inl f
    · rw [e1] at f; exact Or.inr f
  · have h5 := (igd_in_iff hs hw h0 _).mp c5
    rw [ig_h_mid, e0] at h5
    cases I with
    | nil =>
      refine ⟨[], (ig_c p, ig_c q), [], rfl, ?_⟩
      have : ig_at (p :: ([] ++ [q])) 1 = q := e1
      rw [this] at h5
      exact h5.2
    | cons x I =>
      refine ⟨[], (ig_c p, ig_c x), gx_sd (ig_c x) (I.map ig_c) (ig_c q), rfl, ?_⟩
      have : ig_at (p :: (x :: I ++ [q])) 1 = x := by simp [ig_at]
      rw [this] at h5
      exact h5.2
