/-! THE NEW BOOK'S MEMORY: thirty cells at the addresses qs. -/
def t0_tag : Nat → Nat := fun i => match i with
  | 0 => 1 | 1 => 2 | 2 => 11 | 3 => 2 | 4 => 11 | 5 => 3 | 6 => 2 | 7 => 11 | 8 => 2 | 9 => 11 | 10 => 2 | 11 => 11 | 12 => 4 | 13 => 2 | 14 => 11
  | 15 => 2 | 16 => 11 | 17 => 11 | 18 => 2 | 19 => 11 | 20 => 2 | 21 => 11 | 22 => 5 | 23 => 7 | 24 => 7 | 25 => 7 | 26 => 11 | 27 => 11 | 28 => 6 | 29 => 11 | _ => 0
def t0_len : Nat → Nat := fun i => match i with
  | 2 => 32 | 4 => 32 | 7 => 92 | 9 => 92 | 11 => 92 | 14 => 120 | 16 => 120 | 17 => 120 | 19 => 240 | 21 => 240 | 26 => 100 | 27 => 100 | 29 => 256 | _ => 0
def t0_ref : Nat → List Nat := fun i => match i with
  | 0 => [1, 3, 5, 12, 22, 28] | 1 => [2] | 3 => [4] | 5 => [6, 8, 10] | 6 => [7] | 8 => [9] | 10 => [11] | 12 => [13, 15, 17, 18, 20] | 13 => [14] | 15 => [16] | 18 => [19] | 20 => [21]
  | 22 => [23, 24, 25, 26, 27] | 23 => [30] | 24 => [30] | 25 => [30] | 28 => [29] | _ => []
def t0 (qs : List Nat) (e0 : Nat) : CS := (qs, fun a => if a = e0 then 20 else t0_tag (qs.idxOf a), fun a => t0_len (qs.idxOf a), fun _ _ => 0, fun a j => ((t0_ref (qs.idxOf a))[j]?).map (fun z => (qs ++ [e0]).getD z 0))
def t0_E (k : CK) (qs : List Nat) (e0 i : Nat) : va_E :=
  if t0_tag i ≤ 10 then .inr (ct_ci (t0_tag i), (List.range (ct_n (t0_tag i))).map (fun j => if ct_int (t0_tag i) j = true then vi 0 else va_rf (((t0_ref i)[j]?).map (fun z => (qs ++ [e0]).getD z 0))))
  else .inl (k.1, t0_len i, .inl (fun _ => iI 0))
theorem t0_tag_hi {i : Nat} (h : 30 ≤ i) : t0_tag i = 0 := by unfold t0_tag; split <;> first | rfl | omega
theorem t0_len_hi {i : Nat} (h : 30 ≤ i) : t0_len i = 0 := by unfold t0_len; split <;> first | rfl | omega
theorem t0_tag_lo : ∀ i, i < 30 → (t0_tag i ≠ 0 ∧ t0_tag i ≤ 11) := by decide
theorem t0_len_le (i : Nat) : t0_len i ≤ 256 := by unfold t0_len; split <;> omega
theorem t0_tag_le (i : Nat) : t0_tag i ≤ 11 := by unfold t0_tag; split <;> omega
section T0S
variable {qs : List Nat} {e0 : Nat} {k : CK}
theorem t0_ok (hl : qs.length = 30) (he : e0 ∉ qs) (hk : k.2.2.2.2.1 = e0) : cs_ok k (t0 qs e0) := by
  have hi : ∀ a, a ∈ qs → qs.idxOf a < 30 := fun a h => by rw [← hl]; exact List.idxOf_lt_length_iff.mpr h
  have hi2 : ∀ a, qs.idxOf a < 30 → a ∈ qs := fun a h => List.idxOf_lt_length_iff.mp (by rw [hl]; exact h)
  refine ⟨fun a => ?_, fun a => ?_, fun a => ?_, ?_, fun a => ?_⟩
  · show a ∈ qs ↔ (if a = e0 then 20 else t0_tag (qs.idxOf a)) ≠ 0 ∧ (if a = e0 then 20 else t0_tag (qs.idxOf a)) ≠ 20
    by_cases h : a = e0
    · subst h
      rw [if_pos rfl]
      exact ⟨fun f => absurd f he, fun f => absurd rfl f.2⟩
    · rw [if_neg h]
      have := t0_tag_le (qs.idxOf a)
      constructor
      · intro f
        exact ⟨(t0_tag_lo _ (hi a f)).1, by omega⟩
      · intro f
        refine hi2 a (Nat.lt_of_not_le fun g => f.1 (t0_tag_hi g))
  · show (if a = e0 then 20 else t0_tag (qs.idxOf a)) = 20 ↔ a = k.2.2.2.2.1
    rw [hk]
    by_cases h : a = e0
    · rw [if_pos h]; exact ⟨fun _ => h, fun _ => rfl⟩
    · rw [if_neg h]
      have := t0_tag_le (qs.idxOf a)
      exact ⟨fun f => by omega, fun f => absurd f h⟩
  · have := t0_len_le (qs.idxOf a)
    show t0_len (qs.idxOf a) ≤ _
    omega
  · show t0_len (qs.idxOf k.2.2.2.2.1) = 0
    rw [hk]
    exact t0_len_hi (Nat.le_of_not_lt fun f => he (hi2 _ f))
  · show (if a = e0 then 20 else t0_tag (qs.idxOf a)) ≤ 14 ∨ (if a = e0 then 20 else t0_tag (qs.idxOf a)) = 20
    have := t0_tag_le (qs.idxOf a)
    by_cases h : a = e0
    · rw [if_pos h]; exact Or.inr rfl
    · rw [if_neg h]; exact Or.inl (by omega)
theorem t0_w (hl : qs.length = 30) (hn : qs.Nodup) (he : e0 ∉ qs) : cwd k (t0 qs e0) = (List.range 30).map (fun i => (qs.getD i 0, t0_E k qs e0 i)) := by
  have hq : qs = (List.range 30).map (fun i => qs.getD i 0) := by
    apply List.ext_getElem?
    intro i
    rw [List.getElem?_map]
    by_cases h : i < 30
    · rw [List.getElem?_range h, List.getElem?_eq_getElem (by omega)]
      simp [List.getD_eq_getElem?_getD, List.getElem?_eq_getElem (show i < qs.length by omega)]
    · rw [List.getElem?_eq_none (by omega), List.getElem?_eq_none (by simp; omega)]
      rfl
  show qs.map (fun a => (a, ct_E k (t0 qs e0) a)) = _
  have key : ∀ Fn : Nat → Nat × va_E, qs.map Fn = (List.range 30).map (fun i => Fn (qs.getD i 0)) := by
    intro Fn
    conv => lhs; rw [hq]
    rw [List.map_map]
    rfl
  rw [key]
  apply List.map_congr_left
  intro i hi
  have hi : i < 30 := List.mem_range.mp hi
  have hlt : i < qs.length := by omega
  have hg : qs.getD i 0 = qs[i] := by simp [List.getD_eq_getElem?_getD, List.getElem?_eq_getElem hlt]
  have hix : qs.idxOf (qs.getD i 0) = i := by rw [hg]; exact hn.idxOf_getElem i hlt
  have hne : qs.getD i 0 ≠ e0 := fun f => he (by rw [← f, hg]; exact List.getElem_mem hlt)
  have ht : tg (t0 qs e0) (qs.getD i 0) = t0_tag i := by
    show (if qs.getD i 0 = e0 then 20 else t0_tag (qs.idxOf (qs.getD i 0))) = _
    rw [if_neg hne, hix]
  have h11 := (t0_tag_lo i hi).2
  show (qs.getD i 0, ct_E k (t0 qs e0) (qs.getD i 0)) = _
  congr 1
  unfold t0_E
  by_cases h : t0_tag i ≤ 10
  · rw [if_pos h, ct_E_obj ht h]
    congr 2
    unfold ct_fs
    rw [ht]
    apply List.map_congr_left
    intro j hj
    have e3 : fo (t0 qs e0) (qs.getD i 0) j = ((t0_ref i)[j]?).map (fun z => (qs ++ [e0]).getD z 0) := by
      show ((t0_ref (qs.idxOf (qs.getD i 0)))[j]?).map _ = _
      rw [hix]
    rw [e3]
    rfl
  · rw [if_neg h]
    have h2 : t0_tag i = 11 := by omega
    rw [ct_E_a 11 (ht.trans h2) (by omega)]
    show (Sum.inl (k.1, ln (t0 qs e0) (qs.getD i 0), Sum.inl (fun j => iI (fi (t0 qs e0) (qs.getD i 0) j))) : va_E) = _
    have e4 : ln (t0 qs e0) (qs.getD i 0) = t0_len i := by
      show t0_len (qs.idxOf (qs.getD i 0)) = _
      rw [hix]
    rw [e4]
    rfl
end T0S
