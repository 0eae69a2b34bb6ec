/-! POINTS: the object at a with its array at b holds the list l. -/
def ptsAt (T : CS) (a b : Nat) (l : List (Int × Int)) (cap : Nat) : Prop := tg T a = 2 ∧ fo T a 0 = some b ∧ tg T b = 11 ∧ ln T b = cap ∧ fi T a 1 = l.length ∧ (l.length ≤ cap ∧ cap ≤ 100000) ∧ ∀ i, i < l.length → fi T b i = ig_pk (l.getD i (0, 0))
def ig_atI (l : List (Int × Int)) (i : Int) : Int × Int := l.getD (i % l.length).toNat (0, 0)
theorem ptsAt.ne {T : CS} {a b cap : Nat} {l : List (Int × Int)} (h : ptsAt T a b l cap) : a ≠ b := by
  intro e
  have h1 := h.1
  have h2 := h.2.2.1
  rw [e] at h1
  omega
theorem sp_BPt_at {post : Int → CS → Prop} {T : CS} {a b cap : Nat} {l : List (Int × Int)} {i : Int} (h : ptsAt T a b l cap) (hl : l ≠ []) (hi : inR i) (hp : post (ig_pk (ig_atI l i)) T) : wp_BPt_at post a i T := by
  obtain ⟨h1, h2, h3, h4, h5, h6, h7⟩ := h
  have hpos : 0 < l.length := List.length_pos_iff.mpr hl
  have hin : inR (fi T a 1) := by rw [h5]; unfold inR; omega
  refine ⟨h1, hin, fun c => ⟨h1, b, h2, h1, ?_⟩, fun c => ?_⟩
  · rw [h5]
    refine sp_BMa_fmod hi (by omega) ?_
    have e0 : 0 ≤ i % (l.length : Int) := Int.emod_nonneg _ (by omega)
    have e1 : i % (l.length : Int) < l.length := Int.emod_lt_of_pos _ (by omega)
    refine ⟨h3, ⟨e0, by rw [h4]; omega⟩, ?_⟩
    rw [h7 _ (by omega)]
    exact hp
  · rw [h5] at c
    omega
theorem sp_BPt_clear {post : CS → Prop} {T : CS} {a b cap : Nat} {l : List (Int × Int)} (h : ptsAt T a b l cap) (hp : post (cs_i T a 1 0)) : wp_BPt_clear post a T := ⟨h.1, fun T1 e => by rw [e]; exact hp⟩
theorem ptsAt.clear {T : CS} {a b cap : Nat} {l : List (Int × Int)} (h : ptsAt T a b l cap) : ptsAt (cs_i T a 1 0) a b [] cap := by
  obtain ⟨h1, h2, h3, h4, h5, h6, h7⟩ := h
  refine ⟨h1, h2, h3, h4, ?_, ⟨Nat.zero_le _, h6.2⟩, fun i hi => absurd hi (Nat.not_lt_zero _)⟩
  simp [fi, cs_i]
theorem sp_BPt_add {post : CS → Prop} {T : CS} {a b cap : Nat} {l : List (Int × Int)} {v : Int} (h : ptsAt T a b l cap) (hc : l.length < cap) (hp : post (cs_i (cs_i T b l.length v) a 1 (l.length + 1))) : wp_BPt_add post a v T := by
  have hne := h.ne
  obtain ⟨h1, h2, h3, h4, h5, h6, h7⟩ := h
  have hin : inR (fi T a 1) := by rw [h5]; unfold inR; omega
  refine ⟨h1, h1, b, h2, h3, hin, by rw [h4]; unfold inR; omega, fun c => ?_, fun c => ⟨h1, b, h2, h1, h3, ⟨by rw [h5]; omega, by rw [h5, h4]; omega⟩, fun T3 e3 => ?_⟩⟩
  · rw [h4, h5] at c
    omega
  · have e5 : (fi T a 1).toNat = l.length := by rw [h5]; omega
    rw [e5] at e3
    have t3 : tg T3 a = 2 := by rw [e3]; exact h1
    refine ⟨t3, t3, fun T4 e4 => ?_⟩
    have e6 : fi T3 a 1 = l.length := by
      rw [e3]
      show (if a = b ∧ 1 = l.length then v else fi T a 1) = _
      rw [if_neg (fun f => hne f.1), h5]
    rw [e6] at e4
    rw [e4, e3]
    exact hp
theorem ptsAt.add {T : CS} {a b cap : Nat} {l : List (Int × Int)} {p : Int × Int} (h : ptsAt T a b l cap) (hc : l.length < cap) : ptsAt (cs_i (cs_i T b l.length (ig_pk p)) a 1 (l.length + 1)) a b (l ++ [p]) cap := by
  have hne := h.ne
  obtain ⟨h1, h2, h3, h4, h5, h6, h7⟩ := h
  refine ⟨h1, h2, h3, h4, ?_, ⟨by rw [List.length_append]; simp; omega, h6.2⟩, fun i hi => ?_⟩
  · simp [fi, cs_i]
  · rw [List.length_append] at hi
    have hi' : i < l.length + 1 := by simpa using hi
    show (if b = a ∧ i = 1 then _ else (if b = b ∧ i = l.length then ig_pk p else fi T b i)) = _
    rw [if_neg (fun f => hne f.1.symm)]
    by_cases e : i = l.length
    · rw [if_pos ⟨rfl, e⟩, e]
      simp
    · rw [if_neg (fun f => e f.2), h7 i (by omega)]
      rw [List.getD_eq_getElem?_getD, List.getD_eq_getElem?_getD, List.getElem?_append_left (by omega)]
