/-! both pieces of a split, as both programs make them -/
def ig_pc (l K : List PT) (e i j : Nat) (part : Bool) : List PT :=
  let p := ig_at K (if part then e else 0)
  let q := ig_at K (if part then 0 else e)
  let i' := if part then j else i
  let j' := if part then i else j
  p :: (ig_seg l i' (ig_m l i' j' p q)).filter (fun x => decide (x ≠ q)) ++ q :: ig_int K e part
theorem ig_m_same (l : List PT) (i : Nat) (p q : PT) : ig_m l i i p q = if ig_d2 (ig_at l i) q < ig_d2 (ig_at l i) p then l.length else 0 := by
  unfold ig_m; rw [if_neg (by simp)]
theorem ig_m_swap {l : List PT} (h : gx_simple (rgn l)) (h0 : l ≠ []) {i j : Nat} {p q : PT} (hi : i < l.length) (hj : j < l.length) (hp : ig_half l i p) (hq : ig_half l j q) (hne : p ≠ q) : ig_m l j i q p = l.length - ig_m l i j p q ∧ (i + ig_m l i j p q) % l.length = j := by
  by_cases c : i = j
  · subst c
    obtain ⟨t, t0, t1, et⟩ := ig_half_t hp
    obtain ⟨u, u0, u1, eu⟩ := ig_half_t hq
    have h1 := ig_d2_lt (rgn_ne h h0 i) t0 u0 et eu
    have h2 := ig_d2_lt (rgn_ne h h0 i) u0 t0 eu et
    have hne2 : t ≠ u := by
      intro f; rw [f] at et
      exact hne (ig_c_inj.mp (et.symm.trans eu))
    rw [ig_m_same, ig_m_same]
    by_cases d : ig_d2 (ig_at l i) q < ig_d2 (ig_at l i) p
    · have : ¬ ig_d2 (ig_at l i) p < ig_d2 (ig_at l i) q := by
        intro g; have := h1.mp d; have := h2.mp g; grind
      rw [if_pos d, if_neg this]
      exact ⟨by omega, by rw [Nat.add_mod_right, Nat.mod_eq_of_lt hi]⟩
    · have : ig_d2 (ig_at l i) p < ig_d2 (ig_at l i) q := by
        rw [h2]
        have : ¬ u < t := fun g => d (h1.mpr g)
        grind
      rw [if_neg d, if_pos this]
      exact ⟨by omega, by rw [Nat.add_zero, Nat.mod_eq_of_lt hi]⟩
  · unfold ig_m
    rw [if_pos c, if_pos (Ne.symm c)]
    rcases Nat.lt_or_ge i j with d | d
    · have e1 : (j + l.length - i) % l.length = j - i := by
        rw [show j + l.length - i = (j - i) + l.length by omega, Nat.add_mod_right, Nat.mod_eq_of_lt (by omega)]
      have e2 : (i + l.length - j) % l.length = i + l.length - j := Nat.mod_eq_of_lt (by omega)
      rw [e1, e2]
      exact ⟨by omega, by rw [show i + (j - i) = j by omega, Nat.mod_eq_of_lt hj]⟩
    · have e1 : (i + l.length - j) % l.length = i - j := by
        rw [show i + l.length - j = (i - j) + l.length by omega, Nat.add_mod_right, Nat.mod_eq_of_lt (by omega)]
      have e2 : (j + l.length - i) % l.length = j + l.length - i := Nat.mod_eq_of_lt (by omega)
      rw [e1, e2]
      exact ⟨by omega, by rw [show i + (j + l.length - i) = j + l.length by omega, Nat.add_mod_right, Nat.mod_eq_of_lt hj]⟩
theorem ig_seg_mod {l : List PT} {i j m : Nat} (h : i % l.length = j % l.length) : ig_seg l i m = ig_seg l j m := by
  unfold ig_seg
  apply List.map_congr_left
  intro k _
  rw [← ig_at_mod l (i + 1 + k), ← ig_at_mod l (j + 1 + k)]
  congr 1
  rw [Nat.add_assoc, Nat.add_assoc, Nat.add_mod, h, ← Nat.add_mod]
theorem ig_int_t (p q : PT) (I : List PT) : ig_int (p :: (I ++ [q])) (I.length + 1) true = I := by
  unfold ig_int
  apply List.ext_getElem
  · simp
  · intro k h1 h2
    simp only [List.getElem_map, List.getElem_range, if_pos]
    rw [ig_at_lt (by simp; omega)]
    simp [List.getElem_append_left h2]
theorem ig_int_f (p q : PT) (I : List PT) : ig_int (p :: (I ++ [q])) (I.length + 1) false = I.reverse := by
  unfold ig_int
  apply List.ext_getElem
  · simp
  · intro k h1 h2
    have hk : k < I.length := by simpa using h2
    simp only [List.getElem_map, List.getElem_range]
    rw [List.getElem_reverse]
    obtain ⟨x, hx⟩ : ∃ x, I.length - 1 - k = x := ⟨_, rfl⟩
    have e : (if (false = true) then k + 1 else I.length + 1 - 1 - k) = x + 1 := by simp; omega
    rw [e, ig_at_lt (by simp; omega)]
    simp only [hx]
    simp [List.getElem_append_left (show x < I.length by omega)]
theorem ig_chain_form {K : List PT} {e : Nat} (he : K.length = e + 1) (he0 : 0 < e) : ∃ p I q, K = p :: (I ++ [q]) ∧ e = I.length + 1 := by
  match K, he with
  | p :: r, he =>
    have hr : r ≠ [] := by intro f; rw [f] at he; simp at he; omega
    refine ⟨p, r.dropLast, r.getLast hr, by rw [List.dropLast_concat_getLast hr], ?_⟩
    simp at he ⊢
    omega
theorem ig_pieces {l K : List PT} {e : Nat} (hl : ∀ p ∈ l, ig_ok p) (hK : ∀ p ∈ K, ig_ok p) (hs : gx_simple (rgn l)) (hw : ∀ z, 0 ≤ gx_wn (rgn l) z) (h0 : l ≠ []) (he : K.length = e + 1) (he0 : 0 < e) (h : ch_ok l K e) {i j : Nat} (hi : i < l.length) (hj : j < l.length) (hp : ig_half l i (ig_at K 0)) (hq : ig_half l j (ig_at K e)) :
    (gx_simple (rgn (ig_pc l K e i j false)) ∧ ∀ z, 0 ≤ gx_wn (rgn (ig_pc l K e i j false)) z) ∧ (gx_simple (rgn (ig_pc l K e i j true)) ∧ ∀ z, 0 ≤ gx_wn (rgn (ig_pc l K e i j true)) z) ∧ ∀ z, gx_wn (rgn (ig_pc l K e i j false)) z + gx_wn (rgn (ig_pc l K e i j true)) z = gx_wn (rgn l) z := by
  obtain ⟨p, I, q, eK, ee⟩ := ig_chain_form he he0
  subst eK; subst ee
  have e0 : ig_at (p :: (I ++ [q])) 0 = p := by simp [ig_at]
  have e1 : ig_at (p :: (I ++ [q])) (I.length + 1) = q := by rw [ig_at_lt (by simp)]; simp
  have hne : p ≠ q := by have := h.1.1; rwa [e0, e1] at this
  rw [e0] at hp
  rw [e1] at hq
  have hst := ig_m_steps hs h0 hi hj hp hq hne
  obtain ⟨sw1, sw2⟩ := ig_m_swap hs h0 hi hj hp hq hne
  have := ch_split hl hK hs hw h0 h hi hj hp hq hst rfl rfl
  have f1 : ig_pc l (p :: (I ++ [q])) (I.length + 1) i j false = p :: (ig_seg l i (ig_m l i j p q)).filter (fun x => decide (x ≠ q)) ++ q :: I.reverse := by
    unfold ig_pc
    simp only [Bool.false_eq_true, if_false, e0, e1, ig_int_f]
  have f2 : ig_pc l (p :: (I ++ [q])) (I.length + 1) i j true = q :: (ig_seg l (i + ig_m l i j p q) (l.length - ig_m l i j p q)).filter (fun x => decide (x ≠ p)) ++ p :: I := by
    unfold ig_pc
    simp only [if_true, e0, e1, ig_int_t]
    rw [sw1, ig_seg_mod (l := l) (i := j) (j := i + ig_m l i j p q) (by rw [sw2, Nat.mod_eq_of_lt hj])]
  rw [f1, f2]
  exact this
/-! Cutter -/
section CUT
variable {T : CS} {ra rb capR ca cb : Nat} {l K : List PT}
theorem sp_B_middle {post : Int → CS → Prop} {a b cap : Nat} (h : ptsAt T a b l cap) (h0 : l ≠ []) (hok : ∀ p ∈ l, ig_ok p) {p q : PT} (hp : ig_ok p) (hq : ig_ok q) (pi : igd_in l (ig_add p q) → post 1 T) (px : ∀ v : Int, v ≠ 1 → inR v → ¬ igd_in l (ig_add p q) → post v T) : wp_BCu_whereIsMiddle post a (ig_pk p) (ig_pk q) T := by
  unfold wp_BCu_whereIsMiddle
  refine sp_BPl_xOf hp (sp_BPl_xOf hq (sp_BPl_yOf hp (sp_BPl_yOf hq ?_)))
  exact sp_B_where (z := ig_add p q) h h0 hok (ok_add hp hq) (fun f => px 0 (by decide) inR_lit0 (fun g => g.1 f)) pi (fun f g => px (-1) (by decide) ⟨by decide, by decide⟩ g)
theorem sp_B_meets {post : Int → CS → Prop} (hr : ptsAt T ra rb l capR) (hc : ptsAt T ca cb K 32) (h0 : l ≠ []) (hl : ∀ p ∈ l, ig_ok p) (hK : ∀ p ∈ K, ig_ok p) {e : Nat} (he : K.length = e + 1) (p1 : (∀ i j, i < e → j < l.length → ch_meet l K e i j) → post 1 T) (p0 : ¬ (∀ i j, i < e → j < l.length → ch_meet l K e i j) → post 0 T) : wp_BCu_meetsOnlyAtEnds post ra ca T := by
  have k0 : K ≠ [] := by intro f; rw [f] at he; simp at he
  have okl := ig_at_ok hl h0
  have okK := ig_at_ok hK k0
  have q1 := hr.2.2.2.2.2.1
  have q2 := hc.2.2.2.2.2.1
  have inner : ∀ (k9 : Nat → Nat → Int → Int → CS → Prop) (i : Nat), i < e → ((∀ j, j < l.length → ch_meet l K e i j) → k9 ra ca e ((i : Int) + 1) T) → ∀ (n j : Nat), l.length - j < n → j ≤ l.length → (∀ j', j' < j → ch_meet l K e i j') → wp_BCu_meetsOnlyAtEnds_17 post k9 n ra ca e i j T := by
    intro k9 i hi hk n
    induction n with
    | zero => intro j hn; omega
    | succ n ih =>
      intro j hn hj hall
      have e1 : (j : Int) + 1 = ((j + 1 : Nat) : Int) := by omega
      have e2 : (i : Int) + 1 = ((i + 1 : Nat) : Int) := by omega
      unfold wp_BCu_meetsOnlyAtEnds_17
      rw [hr.sz, e1, e2]
      rw [e2] at hk
      refine ⟨hr.1, by unfold inR; omega, by unfold inR; omega, fun c => hk (fun j' hj' => hall j' (by omega)), fun c => ?_⟩
      have m012 := ic_meeting_012 (ig_at K i) (ig_at K (i + 1)) (ig_at l j) (ig_at l (j + 1))
      have nx : ch_meet l K e i j → wp_BCu_meetsOnlyAtEnds_132 post k9 (wp_BCu_meetsOnlyAtEnds_17 post k9 n) ra ca e i j T := by
        intro q
        unfold wp_BCu_meetsOnlyAtEnds_132
        rw [e1]
        refine ih (j + 1) (by omega) (by omega) (fun j' hj' => ?_)
        by_cases r : j' = j
        · rw [r]; exact q
        · exact hall j' (by omega)
      have no : ¬ ch_meet l K e i j → post 0 T := fun q => p0 (fun f => q (f i j hi (by omega)))
      have k111 : ∀ b : Bool, (b = true ↔ (i = 0 ∧ ic_lies (ig_at K 0) (ig_at l j) (ig_at l (j + 1)) = true) ∨ (i + 1 = e ∧ ic_lies (ig_at K e) (ig_at l j) (ig_at l (j + 1)) = true)) → wp_BCu_meetsOnlyAtEnds_111 post k9 (wp_BCu_meetsOnlyAtEnds_17 post k9 n) ra ca e i j (ic_meeting (ig_at K i) (ig_at K (i + 1)) (ig_at l j) (ig_at l (j + 1))) (bI b) T := by
        intro b hb
        unfold wp_BCu_meetsOnlyAtEnds_111
        refine ⟨by unfold inR; omega, fun d => no (fun q => q.1 d), fun d => ⟨by unfold inR; omega, fun d2 => nx ⟨d, fun q => absurd q d2⟩, fun d2 => ⟨bI_in _, fun d3 => nx ⟨d, fun _ => hb.mp (bI_ne.mp d3)⟩, fun d3 => no (fun q => ?_)⟩⟩⟩
        have := hb.mpr (q.2 d2)
        rw [bI_0.mp d3] at this; cases this
      have k84 : ¬ (i = 0 ∧ ic_lies (ig_at K 0) (ig_at l j) (ig_at l (j + 1)) = true) → wp_BCu_meetsOnlyAtEnds_84 post k9 (wp_BCu_meetsOnlyAtEnds_17 post k9 n) ra ca e i j (ig_pk (ig_at l j)) (ig_pk (ig_at l (j + 1))) (ic_meeting (ig_at K i) (ig_at K (i + 1)) (ig_at l j) (ig_at l (j + 1))) T := by
        intro q
        unfold wp_BCu_meetsOnlyAtEnds_84
        refine ⟨by unfold inR; omega, by unfold inR; omega, fun d => k111 false ⟨fun f => absurd f (by decide), fun f => f.elim (fun f => absurd f q) (fun f => absurd f.1 (by omega))⟩, fun d => ⟨hc.1, sp_at_nat hc k0 (by omega) (sp_BPl_lies (okK _) (okl _) (okl _) ⟨bI_in _, fun d2 => k111 false ⟨fun f => absurd f (by decide), fun f => f.elim (fun f => absurd f q) (fun f => ?_)⟩, fun d2 => k111 true ⟨fun _ => Or.inr ⟨by omega, bI_ne.mp d2⟩, fun _ => rfl⟩⟩)⟩⟩
        have := f.2
        rw [bI_0.mp d2] at this; cases this
      refine ⟨hr.1, sp_at_nat hr h0 (by omega) ⟨hr.1, sp_at_nat hr h0 (by omega) ⟨hc.1, sp_at_nat hc k0 (by omega) ⟨hc.1, sp_at_nat hc k0 (by omega) (sp_BPl_meeting (okK _) (okK _) (okl _) (okl _) ⟨by unfold inR; omega, fun d => k84 (fun f => d (by omega)), fun d => ⟨hc.1, ?_⟩⟩)⟩⟩⟩⟩
      refine sp_at_nat (i := 0) hc k0 (by omega) (sp_BPl_lies (okK _) (okl _) (okl _) ⟨bI_in _, fun d2 => k111 true ⟨fun _ => Or.inl ⟨by omega, bI_ne.mp d2⟩, fun _ => rfl⟩, fun d2 => k84 (fun f => ?_)⟩)
      have := f.2
      rw [bI_0.mp d2] at this; cases this
  have loop : ∀ (n i : Nat), e - i < n → i ≤ e → (∀ i' j, i' < i → j < l.length → ch_meet l K e i' j) → wp_BCu_meetsOnlyAtEnds_9 post n ra ca e i T := by
    intro n
    induction n with
    | zero => intro i hn; omega
    | succ n ih =>
      intro i hn hi hall
      have e2 : (i : Int) + 1 = ((i + 1 : Nat) : Int) := by omega
      unfold wp_BCu_meetsOnlyAtEnds_9
      refine ⟨by unfold inR; omega, by unfold inR; omega, fun c => p1 (fun i' j a b => hall i' j (by omega) b), fun c => ⟨l.length + 1, inner _ i (by omega) (fun q => ?_) _ 0 (by omega) (by omega) (fun j' hj' => by omega)⟩⟩
      rw [e2]
      refine ih (i + 1) (by omega) (by omega) (fun i' j a b => ?_)
      by_cases r : i' = i
      · rw [r]; exact q j b
      · exact hall i' j (by omega) b
  unfold wp_BCu_meetsOnlyAtEnds
  rw [hc.sz, he]
  refine ⟨hc.1, fun v2 e2 => ?_⟩
  have : v2 = (e : Int) := by omega
  rw [this]
  exact ⟨e + 1, loop _ 0 (by omega) (by omega) (fun i' j a => by omega)⟩
theorem sp_B_fits {post : Int → CS → Prop} (hr : ptsAt T ra rb l capR) (hc : ptsAt T ca cb K 32) (h0 : l ≠ []) (hl : ∀ p ∈ l, ig_ok p) (hK : ∀ p ∈ K, ig_ok p) (hn60 : l.length ≤ 60)
    (ps : K.length < 2 → post 0 T) (p1 : ∀ e, K.length = e + 1 → 0 < e → ch_ok l K e → post 1 T) (p0 : ∀ e, K.length = e + 1 → 0 < e → ¬ ch_ok l K e → post 0 T) : wp_BCu_fits post ra ca T := by
  have q2 := hc.2.2.2.2.2.1
  unfold wp_BCu_fits
  rw [hc.sz]
  refine ⟨hc.1, fun v2 e2 => ?_⟩
  by_cases hlen : K.length < 2
  · exact ⟨by unfold inR; omega, fun _ => ps hlen, fun c => by omega⟩
  · obtain ⟨e, he⟩ : ∃ e, K.length = e + 1 := ⟨K.length - 1, by omega⟩
    have he0 : 0 < e := by omega
    have p1 := p1 e he he0
    have p0 := p0 e he he0
    have k0 : K ≠ [] := by intro f; rw [f] at he; simp at he
    have okK := ig_at_ok hK k0
    have ev : v2 = (e : Int) := by omega
    rw [ev]
    have loop : ch_ends l K e → ∀ (n k : Nat), e - k < n → 1 ≤ k → k ≤ e → (∀ i, 1 ≤ i → i < k → igd_in l (ig_add (ig_at K i) (ig_at K i))) → wp_BCu_fits_53 post n ra ca e k T := by
      intro hends n
      induction n with
      | zero => intro k hn; omega
      | succ n ih =>
        intro k hn k1 ke hall
        have e1 : (k : Int) + 1 = ((k + 1 : Nat) : Int) := by omega
        unfold wp_BCu_fits_53
        rw [e1]
        refine ⟨by unfold inR; omega, by unfold inR; omega, fun c => ?_, fun c => ⟨hc.1, sp_at_nat hc k0 (by omega) ⟨hc.1, sp_at_nat hc k0 (by omega) (sp_B_middle hr h0 hl (okK k) (okK k) (fun f => ⟨inR_lit1, fun _ => ih (k + 1) (by omega) (by omega) (by omega) (fun i a b => ?_), fun q => absurd rfl q⟩) (fun v hv hvR f => ⟨hvR, fun q => absurd q hv, fun _ => p0 (fun g => f (g.2.1 k k1 (by omega)))⟩))⟩⟩⟩
        · have hin : ch_in l K e := fun i a b => hall i a (by omega)
          refine sp_BRi_isSimple (closed := false) hc k0 hK (fun f => ⟨inR_lit1, fun q => absurd q (by decide), fun _ => ?_⟩) (fun f => ⟨inR_lit0, fun _ => p0 (fun g => f g.2.2.1), fun q => absurd rfl q⟩)
          refine sp_B_meets hr hc h0 hl hK he (fun g => ⟨inR_lit1, fun q => absurd q (by decide), fun _ => ⟨hc.1, ?_⟩⟩) (fun g => ⟨inR_lit0, fun _ => p0 (fun q => g q.2.2.2.1), fun q => absurd rfl q⟩)
          refine sp_at_nat (i := 0) hc k0 (by omega) ⟨hc.1, sp_at_nat (i := 1) hc k0 (by omega) (sp_B_middle hr h0 hl (okK 0) (okK 1) (fun q => ⟨inR_lit1, fun r => absurd rfl r, fun _ => p1 ⟨hends, hin, f, g, q⟩⟩) (fun v hv hvR q => ⟨hvR, fun _ => p0 (fun r => q r.2.2.2.2), fun r => absurd r hv⟩))⟩
        · by_cases r : i = k
          · rw [r]; exact f
          · exact hall i a (by omega)
    refine ⟨by unfold inR; omega, fun c => by omega, fun c => ⟨hc.1, sp_at_nat (i := 0) hc k0 (by omega) ⟨hc.1, sp_at_nat hc k0 (by omega) ⟨pkd_R (okK _), pkd_R (okK _), fun d => p0 (fun f => f.1.1 ((pkd_inj (okK _) (okK _)).mp d)), fun d => ⟨hc.1, sp_at_nat (i := 0) hc k0 (by omega) (sp_B_sideOf hr h0 hl (okK 0) (fun i hi f => ⟨by unfold inR; omega, fun q => by omega, fun _ => ⟨hc.1, sp_at_nat hc k0 (by omega) (sp_B_sideOf hr h0 hl (okK e) (fun j hj g => ⟨by unfold inR; omega, fun _ => ⟨e + 1, loop ⟨fun q => d (by rw [q]), ⟨i, hi, f⟩, j, hj, g⟩ _ 1 (by omega) (by omega) (by omega) (fun i a b => by omega)⟩, fun q => absurd (by omega) q⟩) (fun g => ⟨⟨by decide, by decide⟩, fun q => absurd q (by decide), fun _ => p0 (fun q => ?_)⟩))⟩⟩) (fun f => ⟨⟨by decide, by decide⟩, fun _ => p0 (fun q => ?_), fun q => absurd (by decide) q⟩))⟩⟩⟩⟩⟩
    · obtain ⟨j, a, b⟩ := q.1.2.2; exact absurd b (g j a)
    · obtain ⟨j, a, b⟩ := q.1.2.1; exact absurd b (f j a)
end CUT
