/-! THE MERGE: two rings along one line -/
def sdi (L : List PT) (i m : Nat) : List ((Rat × Rat) × (Rat × Rat)) := (List.range m).map (fun k => (ig_c (ig_at L (i + k)), ig_c (ig_at L (i + k + 1))))
theorem sdi_add (L : List PT) (i m k : Nat) : sdi L i (m + k) = sdi L i m ++ sdi L (i + m) k := by
  unfold sdi
  rw [List.range_add, List.map_append, List.map_map]
  congr 1
  apply List.map_congr_left
  intro x _
  show (ig_c (ig_at L (i + (m + x))), ig_c (ig_at L (i + (m + x) + 1))) = _
  rw [← Nat.add_assoc]
theorem sdi_path (L : List PT) (i m : Nat) : gx_path (sdi L i m) (ig_c (ig_at L i)) (ig_c (ig_at L (i + m))) := by
  induction m with
  | zero => rfl
  | succ m ih =>
    rw [sdi_add]
    refine gx_path_app ih ?_
    simp [sdi, gx_path]
    congr 2
theorem sdi_per (L : List PT) (i m : Nat) : sdi L (i + L.length) m = sdi L i m := by
  unfold sdi
  apply List.map_congr_left
  intro k _
  rw [show i + L.length + k = i + k + L.length by omega, ig_at_len, show i + k + L.length + 1 = i + k + 1 + L.length by omega, ig_at_len]
theorem sdi_rot {L : List PT} (h : gx_simple (rgn L)) (i : Nat) : gx_simple (sdi L i L.length) ∧ ∀ z, gx_wn (sdi L i L.length) z = gx_wn (rgn L) z := by
  have h0 : rgn L = sdi L 0 L.length := by
    rw [rgn_ix]; unfold sdi; simp
  have one : ∀ i, i ≤ L.length → gx_simple (sdi L i L.length) ∧ ∀ z, gx_wn (sdi L i L.length) z = gx_wn (rgn L) z := by
    intro i hi
    have e1 : rgn L = sdi L 0 i ++ sdi L i (L.length - i) := by
      rw [h0, show L.length = i + (L.length - i) by omega, sdi_add, Nat.zero_add]; congr 2; omega
    have e2 : sdi L i L.length = sdi L i (L.length - i) ++ sdi L 0 i := by
      have := sdi_add L i (L.length - i) i
      rw [show L.length - i + i = L.length by omega, show i + (L.length - i) = 0 + L.length by omega, sdi_per] at this
      exact this
    rw [e1] at h ⊢
    rw [e2]
    exact ⟨gx_simple_rot h, fun z => by rw [gx_wn_app, gx_wn_app]; omega⟩
  by_cases c : L.length = 0
  · have : sdi L i L.length = rgn L := by rw [h0, c]; rfl
    rw [this]; exact ⟨h, fun _ => rfl⟩
  · have e : sdi L i L.length = sdi L (i % L.length) L.length := by
      have : ∀ q y, sdi L (y + q * L.length) L.length = sdi L y L.length := by
        intro q
        induction q with
        | zero => intro y; simp
        | succ q ih => intro y; rw [Nat.succ_mul, ← Nat.add_assoc, sdi_per, ih]
      conv => lhs; rw [← Nat.mod_add_div i L.length, Nat.mul_comm, this]
    rw [e]
    exact one _ (Nat.le_of_lt (Nat.mod_lt _ (by omega)))
theorem sdi_mem {L : List PT} {i m : Nat} {s : (Rat × Rat) × (Rat × Rat)} : s ∈ sdi L i m ↔ ∃ k, k < m ∧ s = (ig_c (ig_at L (i + k)), ig_c (ig_at L (i + k + 1))) := by
  unfold sdi
  rw [List.mem_map]
  constructor
  · rintro ⟨k, hk, e⟩; exact ⟨k, List.mem_range.mp hk, e.symm⟩
  · rintro ⟨k, hk, e⟩; exact ⟨k, List.mem_range.mpr hk, e.symm⟩
theorem sdi_rgn {L : List PT} (h0 : L ≠ []) (i : Nat) : (ig_c (ig_at L i), ig_c (ig_at L (i + 1))) ∈ rgn L := by
  have hn : 0 < L.length := List.length_pos_iff.mpr h0
  refine rgn_mem.mpr ⟨i % L.length, Nat.mod_lt _ hn, ?_⟩
  rw [ig_at_mod, ← ig_at_mod L (i % L.length + 1), Nat.mod_add_mod, ig_at_mod]
theorem ig_at_inj {R : List PT} (h : R.Nodup) (h0 : R ≠ []) {x y : Nat} (e : ig_at R x = ig_at R y) : x % R.length = y % R.length := by
  have hn : 0 < R.length := List.length_pos_iff.mpr h0
  rw [← ig_at_mod R x, ← ig_at_mod R y, ig_at_lt (Nat.mod_lt _ hn), ig_at_lt (Nat.mod_lt _ hn)] at e
  exact nodup_ix h _ _ e
/-- side i of L is one of R, run the other way -/
def mg_cs (L R : List PT) (i : Nat) : Bool := (List.range R.length).any (fun j => decide (ig_at R j = ig_at L (i + 1)) && decide (ig_at R (j + 1) = ig_at L i))
def mg_cp (L R : List PT) (i : Nat) : Bool := decide (ig_at L i ∈ R)
theorem mg_cs_iff {L R : List PT} {i : Nat} : mg_cs L R i = true ↔ ∃ j, j < R.length ∧ ig_at R j = ig_at L (i + 1) ∧ ig_at R (j + 1) = ig_at L i := by
  unfold mg_cs
  simp only [List.any_eq_true, List.mem_range, Bool.and_eq_true, decide_eq_true_eq]
theorem mg_cs_per (L R : List PT) (i : Nat) : mg_cs L R (i + L.length) = mg_cs L R i := by
  unfold mg_cs
  rw [ig_at_len, show i + L.length + 1 = i + 1 + L.length by omega, ig_at_len]
theorem mg_cs_any {L R : List PT} {i j : Nat} (h0 : R ≠ []) (h1 : ig_at R j = ig_at L (i + 1)) (h2 : ig_at R (j + 1) = ig_at L i) : mg_cs L R i = true := by
  have hn : 0 < R.length := List.length_pos_iff.mpr h0
  refine mg_cs_iff.mpr ⟨j % R.length, Nat.mod_lt _ hn, by rw [ig_at_mod, h1], ?_⟩
  rw [← ig_at_mod R (j % R.length + 1), Nat.mod_add_mod, ig_at_mod, h2]
def mg_line (L R : List PT) (st s M : Nat) : Prop := 0 < s ∧ s < L.length ∧ s < R.length ∧ s ≤ M ∧ (∀ k, k ≤ s → ig_at R (M - k) = ig_at L (st + k)) ∧ (∀ k, s ≤ k → k < L.length → mg_cs L R (st + k) = false) ∧ ∀ i, i < L.length → mg_cp L R i = true → ∃ k, k ≤ s ∧ i % L.length = (st + k) % L.length
def mg_out (L R : List PT) (st s M : Nat) : List PT := ig_seg L (st + s - 1) (L.length - s) ++ ig_seg R (M - 1) (R.length - s)
theorem sdi_rev {L R : List PT} {st s M : Nat} (hM : s ≤ M) (h : ∀ k, k ≤ s → ig_at R (M - k) = ig_at L (st + k)) : sdi R (M - s) s = gx_rev (sdi L st s) := by
  apply List.ext_getElem
  · simp [sdi, gx_rev]
  · intro k h1 h2
    have hk : k < s := by simpa [sdi] using h1
    simp only [sdi, gx_rev, List.getElem_map, List.getElem_range, List.getElem_reverse, List.length_map, List.length_range]
    have a := h (s - k) (by omega)
    have b := h (s - 1 - k) (by omega)
    rw [show M - s + k = M - (s - k) by omega, show M - (s - k) + 1 = M - (s - 1 - k) by omega, a, b]
    congr 2
    congr 1; omega
theorem seg_at {L : List PT} {i m k : Nat} (hk : k < m) : ig_at (ig_seg L i m) k = ig_at L (i + 1 + k) := by
  rw [ig_at_lt (by rw [ig_seg_len]; exact hk)]
  simp [ig_seg]
theorem app_at {X Y : List PT} {k : Nat} : (k < X.length → ig_at (X ++ Y) k = ig_at X k) ∧ (k < Y.length → ig_at (X ++ Y) (X.length + k) = ig_at Y k) := by
  constructor
  · intro h
    rw [ig_at_lt (by simp; omega), ig_at_lt h, List.getElem_append_left h]
  · intro h
    rw [ig_at_lt (by simp; omega), ig_at_lt h, List.getElem_append_right (by omega)]
    congr 1; omega
theorem mg_out_rgn {L R : List PT} {st s M : Nat} (h : mg_line L R st s M) : rgn (mg_out L R st s M) = sdi L (st + s) (L.length - s) ++ sdi R M (R.length - s) := by
  obtain ⟨h1, h2, h3, h4, h5, _⟩ := h
  have l1 : (ig_seg L (st + s - 1) (L.length - s)).length = L.length - s := ig_seg_len _ _ _
  have l2 : (ig_seg R (M - 1) (R.length - s)).length = R.length - s := ig_seg_len _ _ _
  have a1 : ∀ k, k < L.length - s → ig_at (mg_out L R st s M) k = ig_at L (st + s + k) := by
    intro k hk
    unfold mg_out
    rw [app_at.1 (by rw [l1]; exact hk), seg_at hk]; congr 1; omega
  have a2 : ∀ k, k < R.length - s → ig_at (mg_out L R st s M) (L.length - s + k) = ig_at R (M + k) := by
    intro k hk
    unfold mg_out
    have := (app_at (X := ig_seg L (st + s - 1) (L.length - s)) (Y := ig_seg R (M - 1) (R.length - s)) (k := k)).2 (by rw [l2]; exact hk)
    rw [l1] at this
    rw [this, seg_at hk]; congr 1; omega
  have len : (mg_out L R st s M).length = (L.length - s) + (R.length - s) := by unfold mg_out; rw [List.length_append, l1, l2]
  have a3 : ig_at (mg_out L R st s M) (L.length - s) = ig_at L (st + s + (L.length - s)) := by
    have := a2 0 (by omega)
    have e := h5 0 (by omega)
    rw [Nat.add_zero, Nat.add_zero] at this
    rw [this, show st + s + (L.length - s) = st + 0 + L.length by omega, ig_at_len]
    exact e
  have a4 : ig_at (mg_out L R st s M) ((L.length - s) + (R.length - s)) = ig_at R (M + (R.length - s)) := by
    have := a1 0 (by omega)
    have e := h5 s (by omega)
    rw [← len, show (mg_out L R st s M).length = 0 + (mg_out L R st s M).length by omega, ig_at_len, this, show M + (R.length - s) = M - s + R.length by omega, ig_at_len, e]
    rfl
  rw [rgn_ix, len, List.range_add, List.map_append, List.map_map]
  congr 1
  · unfold sdi
    apply List.map_congr_left
    intro k hk
    have hk := List.mem_range.mp hk
    rw [a1 k hk]
    by_cases c : k + 1 < L.length - s
    · rw [a1 (k + 1) c]; rfl
    · have : k + 1 = L.length - s := by omega
      rw [this, a3, ← this]; rfl
  · unfold sdi
    apply List.map_congr_left
    intro k hk
    have hk := List.mem_range.mp hk
    show (ig_c (ig_at (mg_out L R st s M) (L.length - s + k)), ig_c (ig_at (mg_out L R st s M) (L.length - s + k + 1))) = _
    rw [a2 k hk]
    by_cases c : k + 1 < R.length - s
    · rw [Nat.add_assoc, a2 (k + 1) c]; rfl
    · have : k + 1 = R.length - s := by omega
      rw [Nat.add_assoc, this, a4, ← this]; rfl
