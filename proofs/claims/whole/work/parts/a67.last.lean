/-! THE BEGINNING AND THE END -/
section FIN
variable {qs : List Nat} {e0 : Nat}
theorem t0_at (hq : qs.Nodup) (hl : qs.length = 30) (he : e0 ∉ qs) {i : Nat} (hi : i < 30) : tg (t0 qs e0) (qa qs i) = t0_tag i ∧ ln (t0 qs e0) (qa qs i) = t0_len i ∧ ∀ j, fo (t0 qs e0) (qa qs i) j = ((t0_ref i)[j]?).map (fun z => (qs ++ [e0]).getD z 0) := by
  have hlt : i < qs.length := by omega
  have hg : qs.getD i 0 = qs[i] := by simp [List.getD_eq_getElem?_getD, List.getElem?_eq_getElem hlt]
  have hix : qs.idxOf (qs.getD i 0) = i := by rw [hg]; exact hq.idxOf_getElem i hlt
  have hne : qs.getD i 0 ≠ e0 := fun f => he (by rw [← f, hg]; exact List.getElem_mem hlt)
  refine ⟨?_, ?_, fun j => ?_⟩
  · show (if qs.getD i 0 = e0 then 20 else t0_tag (qs.idxOf (qs.getD i 0))) = _
    rw [if_neg hne, hix]
  · show t0_len (qs.idxOf (qs.getD i 0)) = _
    rw [hix]
  · show ((t0_ref (qs.idxOf (qs.getD i 0)))[j]?).map _ = _
    rw [hix]
theorem t0_z (hl : qs.length = 30) {z : Nat} (hz : z < 30) : (qs ++ [e0]).getD z 0 = qa qs z := by
  unfold qa
  simp [List.getD_eq_getElem?_getD, List.getElem?_append_left (show z < qs.length by omega)]
theorem t0_e (hl : qs.length = 30) : (qs ++ [e0]).getD 30 0 = e0 := by
  simp [List.getD_eq_getElem?_getD, ← hl]
theorem t0_ref_lo : ∀ i, i < 30 → ¬ (i = 23 ∨ i = 24 ∨ i = 25) → ∀ z ∈ t0_ref i, z < 30 := by decide
def ad0 (qs : List Nat) (e0 : Nat) : Nat → Nat → Nat := fun i _ => if i = 9 then qa qs 29 else e0
theorem BK_0 (hq : qs.Nodup) (hl : qs.length = 30) (he : e0 ∉ qs) : BK qs (ad0 qs e0) (t0 qs e0) R0 := by
  have A := fun {i : Nat} (hi : i < 30) => t0_at hq hl he hi
  have te : tg (t0 qs e0) e0 = 20 := by
    show (if e0 = e0 then 20 else _) = 20
    rw [if_pos rfl]
  have le : ln (t0 qs e0) e0 = 0 := by
    show t0_len (qs.idxOf e0) = 0
    refine t0_len_hi (Nat.le_of_not_lt fun f => he (List.idxOf_lt_length_iff.mp (by rw [hl]; exact f)))
  have al : ∀ i t (f : Nat → Nat), i = 23 ∨ i = 24 ∨ i = 25 → alist (t0 qs e0) (qa qs i) e0 0 f t := by
    intro i t f hi
    have a := A (i := i) (by omega)
    refine ⟨?_, rfl, ?_, Or.inl ⟨te, rfl, le⟩, fun k k1 k2 => by omega, fun k j k1 k2 => by omega⟩
    · rw [a.1]; rcases hi with q | q | q <;> subst q <;> rfl
    · rw [a.2.2 0]
      have : (t0_ref i)[0]? = some 30 := by rcases hi with q | q | q <;> subst q <;> rfl
      rw [this]
      show some ((qs ++ [e0]).getD 30 0) = some e0
      rw [t0_e hl]
  refine ⟨fun i hi => ?_, ⟨rfl, rfl⟩, ?_, ⟨al 23 8 _ (by omega), al 24 9 _ (by omega), al 25 10 _ (by omega)⟩, fun i j _ _ _ ht => ?_, fun d d1 d2 => ?_, fun l l1 l2 => ?_, fun e e1 e2 => ?_, ?_⟩
  · have a := A hi
    refine ⟨a.1, a.2.1, fun j z hz => ?_⟩
    by_cases c : i = 23 ∨ i = 24 ∨ i = 25
    · exact Or.inl (by omega)
    · right
      rw [a.2.2 j, hz]
      show some ((qs ++ [e0]).getD z 0) = _
      rw [t0_z hl (t0_ref_lo i hi c z (List.mem_of_getElem? hz))]
  · have a1 := A (i := 1) (by omega)
    have a2 := A (i := 2) (by omega)
    refine ⟨a1.1, ?_, a2.1, a2.2.1, rfl, ⟨by show 0 ≤ 32; omega, by omega⟩, fun i hi => absurd hi (Nat.not_lt_zero _)⟩
    rw [a1.2.2 0]
    show some ((qs ++ [e0]).getD 2 0) = _
    rw [t0_z hl (by omega)]
  · have : tg (t0 qs e0) e0 = 13 := ht
    omega
  · have : d ≤ 0 := d2
    omega
  · have : l ≤ 0 := l2
    omega
  · have : e ≤ 0 := e2
    omega
  · have a1 := A (i := 28) (by omega)
    have a2 := A (i := 29) (by omega)
    have l2 : ln (t0 qs e0) (qa qs 29) = 256 := a2.2.1
    refine ⟨rfl, rfl, ?_, a2.1, ⟨Nat.zero_le _, ?_, ?_⟩, fun i hi => absurd hi (Nat.not_lt_zero _), Or.inl rfl⟩
    · rw [a1.2.2 0]
      show some ((qs ++ [e0]).getD 29 0) = _
      rw [t0_z hl (by omega)]; rfl
    · show 256 ≤ ln (t0 qs e0) (qa qs 29)
      omega
    · show ln (t0 qs e0) (qa qs 29) ≤ 24000
      omega
theorem LInv_0 (hq : qs.Nodup) (hl : qs.length = 30) (he : e0 ∉ qs) : LInv qs 0 61 60361 (t0 qs e0) (fun _ => 0, fun _ _ => 0) := by
  refine ⟨⟨by omega, by omega⟩, ad0 qs e0, R0, ⟨BK_0 hq hl he, ?_, fun f d _ _ => Int.le_refl 0, WF_R0, ?_, fun l l1 l2 => ?_, ?_⟩, Nat.le_refl 0, fun _ f _ _ => rfl⟩
  · refine ⟨⟨?_, fun f hf => rfl⟩, ⟨rfl, by show 0 ≤ 32; omega, fun k hk => absurd hk (Nat.not_lt_zero _)⟩, fun l l1 l2 => ?_, fun d d1 d2 => ?_, fun e e1 e2 => ?_, fun i hi => absurd hi (Nat.not_lt_zero _)⟩
    · rw [if_pos (show R0.1 7 0 = 0 from rfl)]
    · have : l ≤ 0 := l2
      omega
    · have : d ≤ 0 := d2
      omega
    · have : e ≤ 0 := e2
      omega
  · have k : ∀ a, tg (t0 qs e0) a = 20 → a = e0 := by
      intro a ha
      refine Classical.byContradiction fun c => ?_
      have h2 : (if a = e0 then 20 else t0_tag (qs.idxOf a)) = 20 := ha
      rw [if_neg c] at h2
      have := t0_tag_le (qs.idxOf a)
      omega
    intro a ha b hb
    rw [k a ha, k b hb]
  · have : l ≤ 0 := l2
    omega
  · have := (t0_at hq hl he (i := 29) (by omega)).2.1
    show ln (t0 qs e0) (qa qs 29) ≤ 7000
    rw [this]
    show 256 ≤ 7000
    omega
theorem lw_proof : lw_pure := by
  intro qs e0 hl hq he
  refine ⟨LInv qs, LInv_0 hq hl he, ?_⟩
  intro j c n T S f a1 a2 a3 a4 a5 a6 hj h h1 h2 h3 h4 h5 h6
  refine ⟨?_, op_point hq hl hj h h1 h2 h3 h4 h5 h6, op_open hq hl hj h h1 h2 h3 h4 h5 h6, op_split hq hl hj h h1 h2 h3 h4 h5 h6, op_merge hq hl hj h h1 h2 h3 h4 h5 h6, op_transfer hq hl hj h h1 h2 h3 h4 h5 h6, op_ease hq hl hj h h1 h2 h3 h4 h5 h6, op_release hq hl hj h h1 h2 h3 h4 h5 h6, op_lotAt hq hl hj h h1 h2 h3 h4 h5 h6, op_area2 hq hl hj h h1 h2 h3 h4 h5 h6, op_share hq hl hj h h1 h2 h3 h4 h5 h6, op_next hq hl hj h h1 h2 h3 h4 h5 h6, op_burden hq hl hj h h1 h2 h3 h4 h5 h6, op_parent hq hl hj h h1 h2 h3 h4 h5 h6, op_child hq hl hj h h1 h2 h3 h4 h5 h6, op_corners hq hl hj h h1 h2 h3 h4 h5 h6, op_corner hq hl hj h h1 h2 h3 h4 h5 h6, op_many hq hl hj h h1 h2 h3 h4 h5 h6, op_word hq hl hj h h1 h2 h3 h4 h5 h6, op_sync hq hl hj h h1 h2 h3 h4 h5 h6, op_crash hq hl hj h h1 h2 h3 h4 h5 h6, op_mount hq hl hj h h1 h2 h3 h4 h5 h6⟩
  obtain ⟨hc, ad, R, hS, hw, hz⟩ := h
  exact ⟨⟨by omega, by omega⟩, ad, R, hS, by omega, hz⟩
end FIN
theorem i_vc : Claimed_1_1 ∧ Claimed_1_2 := i_vc_open lw_proof
