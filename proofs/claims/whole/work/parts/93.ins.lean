/-! a point of a ring made a corner; the ring parted at two of its points -/
def rgn_pt (l : List PT) (z : Rat × Rat) : Prop := ∃ s ∈ rgn l, gx_on s.1 s.2 z
theorem rgn_ce (b c e : PT) (A : List PT) : rgn (b :: c :: (A ++ [e])) = (ig_c b, ig_c c) :: (gx_sd (ig_c c) (A.map ig_c) (ig_c e) ++ [(ig_c e, ig_c b)]) ∧ rgn (c :: (A ++ [e])) = gx_sd (ig_c c) (A.map ig_c) (ig_c e) ++ [(ig_c e, ig_c c)] := by
  constructor
  · show gx_sd (ig_c b) (ig_c c :: (A ++ [e]).map ig_c) (ig_c b) = _
    rw [List.map_append]
    show (ig_c b, ig_c c) :: gx_sd (ig_c c) (A.map ig_c ++ [ig_c e]) (ig_c b) = _
    rw [gx_sd_app]; rfl
  · show gx_sd (ig_c c) ((A ++ [e]).map ig_c) (ig_c c) = _
    rw [List.map_append]
    show gx_sd (ig_c c) (A.map ig_c ++ [ig_c e]) (ig_c c) = _
    rw [gx_sd_app]; rfl
theorem gx_on_sub {a b d z : Rat × Rat} {t : Rat} (t0 : 0 ≤ t) (t1 : t ≤ 1) (hb : b = gx_at a d t) : (gx_on a b z → gx_on a d z) ∧ (gx_on b d z → gx_on a d z) := by
  constructor
  · rintro ⟨x, x0, x1, e⟩
    refine ⟨x * t, Rat.mul_nonneg x0 t0, ?_, by rw [← gx_sub1 hb]; exact e⟩
    have := Rat.mul_nonneg (show 0 ≤ 1 - x by grind) t0
    grind
  · rintro ⟨x, x0, x1, e⟩
    have h1 := Rat.mul_nonneg x0 (show 0 ≤ 1 - t by grind)
    have h2 := Rat.mul_nonneg (show 0 ≤ 1 - x by grind) (show 0 ≤ 1 - t by grind)
    refine ⟨t + x * (1 - t), by grind, by grind, by rw [← gx_sub2 hb]; exact e⟩
theorem rgn_three {l : List PT} (h : gx_simple (rgn l)) (h0 : l ≠ []) : 3 ≤ l.length := by
  have n0 : rgn l ≠ [] := by
    intro k
    have := rgn_len l
    rw [k] at this
    exact h0 (List.length_eq_zero_iff.mp this.symm)
  have := gx_simple3 h n0
  rwa [rgn_len] at this
theorem rgn_ins {b : PT} {r : List PT} {t : Rat} (h : gx_simple (rgn r)) (h0 : r ≠ []) (t0 : 0 < t) (t1 : t < 1) (hb : ig_c b = gx_at (ig_c (r.getLastD b)) (ig_c (r.headD b)) t) :
    gx_simple (rgn (b :: r)) ∧ (∀ z, gx_wn (rgn (b :: r)) z = gx_wn (rgn r) z) ∧ ∀ z, rgn_pt (b :: r) z → rgn_pt r z := by
  have h3 := rgn_three h h0
  match r, h3 with
  | c :: d :: r, _ =>
    obtain ⟨A, e, hA⟩ : ∃ A e, d :: r = A ++ [e] := ⟨(d :: r).dropLast, (d :: r).getLast (by simp), (List.dropLast_concat_getLast (by simp)).symm⟩
    rw [hA] at h hb ⊢
    have el : (c :: (A ++ [e])).getLastD b = e := by
      have := ig_lastD_app (c :: A) [] e b
      simpa using this
    rw [el] at hb
    have hb : ig_c b = gx_at (ig_c e) (ig_c c) t := hb
    obtain ⟨r1, r2⟩ := rgn_ce b c e A
    rw [r2] at h
    have hn : ig_c e ≠ ig_c c := h.2.1 (ig_c e, ig_c c) (by simp)
    have h' := (gx_sub_simple t0 t1 hb hn).mp h
    refine ⟨?_, fun z => ?_, fun z => ?_⟩
    · rw [r1]
      have := gx_simple_rot (S := gx_sd (ig_c c) (A.map ig_c) (ig_c e) ++ [(ig_c e, ig_c b)]) (T := [(ig_c b, ig_c c)]) (by simpa using h')
      simpa using this
    · rw [r1, r2, ← gx_sub_wn t0 t1 hb]
      simp only [gx_wn_app, gx_wn]; omega
    · rintro ⟨s, hs, hz⟩
      rw [r1] at hs
      unfold rgn_pt
      rw [r2]
      have ho := gx_on_sub (z := z) (Rat.le_of_lt t0) (Rat.le_of_lt t1) hb
      rcases List.mem_cons.mp hs with f | f
      · rw [f] at hz
        exact ⟨(ig_c e, ig_c c), by simp, ho.2 hz⟩
      · rcases List.mem_append.mp f with f | f
        · exact ⟨s, by simp [f], hz⟩
        · rw [List.mem_singleton.mp f] at hz
          exact ⟨(ig_c e, ig_c c), by simp, ho.1 hz⟩
theorem rote_side {l m : List PT} (h : rote l m) {s : (Rat × Rat) × (Rat × Rat)} (hs : s ∈ rgn m) : s ∈ rgn l := by
  obtain ⟨i, hi, e⟩ := rgn_mem.mp hs
  obtain ⟨e1, x, h⟩ := h
  rw [h, h] at e
  refine rgn_mem.mpr ⟨(x + i) % l.length, Nat.mod_lt _ (by omega), ?_⟩
  rw [e, ig_at_mod, ← ig_at_mod l ((x + i) % l.length + 1), Nat.mod_add_mod, ig_at_mod, Nat.add_assoc]
theorem rote_pt {l m : List PT} (h : rote l m) {z : Rat × Rat} (hz : rgn_pt m z) : rgn_pt l z := by
  obtain ⟨s, hs, e⟩ := hz
  exact ⟨s, rote_side h hs, e⟩
/-- l and m: one ring; m may have more corners -/
def same (l m : List PT) : Prop := gx_simple (rgn m) ∧ (∀ z, gx_wn (rgn m) z = gx_wn (rgn l) z) ∧ ∀ z, rgn_pt m z → rgn_pt l z
theorem same_trans {l m n : List PT} (h : same l m) (g : same m n) : same l n := ⟨g.1, fun z => by rw [g.2.1, h.2.1], fun z k => h.2.2 z (g.2.2 z k)⟩
theorem same_rote {l m : List PT} (h : gx_simple (rgn l)) (g : rote l m) : same l m := ⟨rote_simple g h, rote_wn g, fun _ => rote_pt g⟩
theorem filter_ne_id {p : PT} {r : List PT} (h : p ∉ r) : r.filter (fun x => decide (x ≠ p)) = r := by
  rw [List.filter_eq_self]
  intro a ha
  rw [decide_eq_true_eq]
  intro e; rw [e] at ha; exact h ha
theorem rgn_step {p : PT} {r : List PT} {t : Rat} (h : gx_simple (rgn r)) (h0 : r ≠ []) (t0 : 0 ≤ t) (t1 : t < 1) (hp : ig_c p = gx_at (ig_c (r.getLastD p)) (ig_c (r.headD p)) t) : same r (p :: r.filter (fun x => decide (x ≠ p))) := by
  by_cases c : t = 0
  · rw [c, gx_at0] at hp
    have hp := ig_c_inj.mp hp
    obtain ⟨A, e, hA⟩ : ∃ A e, r = A ++ [e] := ⟨r.dropLast, r.getLast h0, (List.dropLast_concat_getLast h0).symm⟩
    have el : r.getLastD p = e := by
      rw [hA]
      have := ig_lastD_app A [] e p
      simpa using this
    rw [el] at hp
    subst hp
    have hn := rgn_nodup h
    rw [hA, List.nodup_append] at hn
    have hf : r.filter (fun x => decide (x ≠ p)) = A := by
      rw [hA, List.filter_append, filter_ne_id (fun f => hn.2.2 p f p (by simp) rfl)]
      simp
    rw [hf]
    refine same_rote h ?_
    rw [hA]
    exact rote_app A [p]
  · have hni : p ∉ r := by
      intro f
      obtain ⟨k, hk, e⟩ := ig_mem_at f
      have e1 : r.getLastD p = ig_at r (r.length - 1) := by
        rw [ig_at_lt (by omega), List.getLastD_eq_getLast?, List.getLast?_eq_getElem?]
        simp [show r.length - 1 < r.length by omega]
      have e2 : r.headD p = ig_at r (r.length - 1 + 1) := by
        have : r.length - 1 + 1 = 0 + r.length := by omega
        rw [this, ig_at_len]
        cases r with
        | nil => exact absurd rfl h0
        | cons a r => simp [ig_at]
      rw [e1, e2] at hp
      have hk' := rgn_inj h hk (show r.length - 1 < r.length by omega) (t := 0) (by grind) (by grind) t0 t1 (by rw [gx_at0, e]; exact hp)
      subst hk'
      have := gx_at_inj (ig_ne (rgn_ne h h0 _)) ((gx_at0 _ _).trans ((congrArg ig_c e).trans hp))
      exact c this.symm
    rw [filter_ne_id hni]
    exact rgn_ins h h0 (by grind) t1 hp
def ig_seg (l : List PT) (i m : Nat) : List PT := (List.range m).map (fun k => ig_at l (i + 1 + k))
theorem ig_seg_len (l : List PT) (i m : Nat) : (ig_seg l i m).length = m := by simp [ig_seg]
theorem ig_seg_add (l : List PT) (i m k : Nat) : ig_seg l i (m + k) = ig_seg l i m ++ ig_seg l (i + m) k := by
  unfold ig_seg
  rw [List.range_add, List.map_append, List.map_map]
  congr 1
  apply List.map_congr_left
  intro x _
  show ig_at l (i + 1 + (m + x)) = _
  congr 1; omega
theorem ig_seg_mem {l : List PT} {i m : Nat} {p : PT} : p ∈ ig_seg l i m ↔ ∃ k, k < m ∧ ig_at l (i + 1 + k) = p := by
  simp [ig_seg]
theorem ig_seg_full (l : List PT) (i : Nat) : rote l (ig_seg l i l.length) := by
  refine ⟨(ig_seg_len _ _ _).symm, i + 1, fun k => ?_⟩
  by_cases c : l.length = 0
  · have : l = [] := List.length_eq_zero_iff.mp c
    subst this; rfl
  · have hk : k % l.length < l.length := Nat.mod_lt _ (by omega)
    unfold ig_at
    rw [ig_seg_len]
    unfold ig_seg
    rw [List.getD_eq_getElem?_getD, List.getElem?_map, List.getElem?_range hk]
    show ig_at l (i + 1 + k % l.length) = ig_at l (i + 1 + k)
    rw [← ig_at_mod l (i + 1 + k % l.length), Nat.add_mod_mod, ig_at_mod]
theorem ig_seg_head {l : List PT} {i m : Nat} {p : PT} (h : 0 < m) : (ig_seg l i m).headD p = ig_at l (i + 1) := by
  cases m with
  | zero => omega
  | succ m => simp [ig_seg, List.range_succ_eq_map]
theorem ig_seg_last {l : List PT} {i m : Nat} {p : PT} (h : 0 < m) : (ig_seg l i m).getLastD p = ig_at l (i + m) := by
  cases m with
  | zero => omega
  | succ m =>
    unfold ig_seg
    rw [List.range_succ, List.map_append]
    have := ig_lastD_app ((List.range m).map (fun k => ig_at l (i + 1 + k))) [] (ig_at l (i + 1 + m)) p
    rw [show i + (m + 1) = i + 1 + m by omega]
    simpa using this
