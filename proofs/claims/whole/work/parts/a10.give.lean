/-! the reference: give -/
def mgv (S S' : MS) (lot : Nat) (K : List PT) : Prop := S'.1 = S.1 ∧ (∀ f, f ≠ 8 → f ≠ 9 → f ≠ 10 → S'.2 f = S.2 f) ∧ (∀ t, t ≠ lot → S'.2 10 t = S.2 10 t) ∧ S'.2 10 lot = K.length ∧ (∀ k, k < K.length → S'.2 8 (60 * lot + k) = (ig_at K k).1 ∧ S'.2 9 (60 * lot + k) = (ig_at K k).2) ∧ ∀ t, (t < 60 * lot ∨ 60 * lot + 60 ≤ t) → S'.2 8 t = S.2 8 t ∧ S'.2 9 t = S.2 9 t
section GIV
variable {S : MS} {M : List PT}
theorem sp_Mo_give {post : MS → Prop} (h : mmade S M) (h0 : M ≠ []) (hok : ∀ p ∈ M, ig_ok p) (h60 : M.length ≤ 60) {lot : Nat} (hlot : lot ≤ 300) (hp : ∀ S' K, mgv S S' lot K → rote M K → (∀ p ∈ K, ig_pk (ig_at K 0) ≤ ig_pk p) → post S') : wp_Mo_give post lot S := by
  have ok := ig_at_ok hok h0
  have hn : 0 < M.length := List.length_pos_iff.mpr h0
  obtain ⟨h1, h2, h3⟩ := h
  -- writing the ring
  have wr : ∀ (f : Nat), f < M.length → (∀ k, k < M.length → ig_pk (ig_at M f) ≤ ig_pk (ig_at M k)) → ∀ S1, S1 = ms_a S 10 lot M.length → ∃ n, wp_Mo_give_93 post n lot f 0 S1 := by
    intro f hf hmin S1 eS1
    -- K
    obtain ⟨A, B, eA, eB⟩ : ∃ A B, M = A ++ B ∧ A.length = f := ⟨M.take f, M.drop f, (List.take_append_drop _ _).symm, by simp; omega⟩
    have hK : ∀ k, ig_at (B ++ A) k = ig_at M (f + k) := by
      intro k; rw [eA, ig_at_rot, eB]
    have hr : rote M (B ++ A) := by rw [eA]; exact rote_app A B
    have hl : (B ++ A).length = M.length := hr.1.symm
    generalize B ++ A = K at hK hr hl
    have hk0 : ∀ p ∈ K, ig_pk (ig_at K 0) ≤ ig_pk p := by
      intro p hp
      obtain ⟨i, hi, e⟩ := ig_mem_at ((rote_mem hr p).mp hp)
      rw [hK, ← e]
      exact hmin i hi
    have loop : ∀ (n k : Nat) (S2 : MS), M.length - k < n → k ≤ M.length → S2.1 = S.1 → (∀ f, f ≠ 8 → f ≠ 9 → f ≠ 10 → S2.2 f = S.2 f) → (∀ t, t ≠ lot → S2.2 10 t = S.2 10 t) → S2.2 10 lot = K.length → (∀ k', k' < k → S2.2 8 (60 * lot + k') = (ig_at K k').1 ∧ S2.2 9 (60 * lot + k') = (ig_at K k').2) → (∀ t, (t < 60 * lot ∨ 60 * lot + 60 ≤ t) → S2.2 8 t = S.2 8 t ∧ S2.2 9 t = S.2 9 t) → wp_Mo_give_93 post n lot f k S2 := by
      intro n
      induction n with
      | zero => intro k S2 hm; omega
      | succ n ih =>
        intro k S2 hm hk a1 a2 a3 a4 a5 a6
        have e1 : (k : Int) + 1 = ((k + 1 : Nat) : Int) := by omega
        have e2 : (f : Int) + (k : Int) = ((f + k : Nat) : Int) := by omega
        have e3 : 60 * (lot : Int) + (k : Int) = ((60 * lot + k : Nat) : Int) := by omega
        unfold wp_Mo_give_93
        rw [a1, h1, e2, e3, nmodc]
        have m1 : (f + k) % M.length < M.length := Nat.mod_lt _ hn
        have x := h3 _ m1
        rw [ig_at_mod, ← hK] at x
        refine ⟨by unfold inR; omega, by unfold inR; omega, fun c => hp S2 K ⟨a1, a2, a3, a4, fun k' hk' => a5 k' (by omega), a6⟩ hr hk0, fun c => ⟨⟨by omega, by omega⟩, ⟨by omega, by omega⟩, ⟨by omega, by omega⟩, fun S3 y3 => ?_⟩⟩
        have b1 : S3.1 = S.1 := by rw [y3]; exact a1
        rw [b1, h1, nmodc]
        refine ⟨⟨by omega, by omega⟩, ⟨by omega, by omega⟩, ⟨by omega, by omega⟩, fun S4 y4 => ?_⟩
        rw [Int.toNat_natCast] at y3 y4
        have z4 : S3.2 35 ((f + k) % M.length) = S2.2 35 ((f + k) % M.length) := by rw [y3]; simp [ms_a]
        rw [z4, a2 35 (by omega) (by omega) (by omega), x.2] at y4
        rw [a2 34 (by omega) (by omega) (by omega), x.1] at y3
        have s8 : ∀ t, S4.2 8 t = if t = 60 * lot + k then (ig_at K k).1 else S2.2 8 t := by
          intro t; rw [y4, y3]; simp only [ms_a, Int.toNat_natCast]; simp
        have s9 : ∀ t, S4.2 9 t = if t = 60 * lot + k then (ig_at K k).2 else S2.2 9 t := by
          intro t; rw [y4, y3]; simp only [ms_a, Int.toNat_natCast]; simp
        have so : ∀ f, f ≠ 8 → f ≠ 9 → S4.2 f = S2.2 f := by
          intro f f8 f9
          funext t
          rw [y4, y3]; simp [ms_a, f8, f9]
        rw [e1]
        refine ih (k + 1) S4 (by omega) (by omega) (by rw [y4]; exact b1) (fun f f8 f9 f10 => by rw [so f f8 f9]; exact a2 f f8 f9 f10) (fun t ht => by rw [so 10 (by omega) (by omega)]; exact a3 t ht) (by rw [so 10 (by omega) (by omega)]; exact a4) (fun k' hk' => ?_) (fun t ht => ?_)
        · rw [s8, s9]
          by_cases c2 : k' = k
          · rw [c2, if_pos rfl, if_pos rfl]; exact ⟨rfl, rfl⟩
          · rw [if_neg (by omega), if_neg (by omega)]; exact a5 k' (by omega)
        · rw [s8, s9, if_neg (by omega), if_neg (by omega)]; exact a6 t ht
    refine ⟨M.length + 1, loop _ 0 S1 (by omega) (by omega) (by rw [eS1]; rfl) (fun f f8 f9 f10 => ?_) (fun t ht => ?_) ?_ (fun k' hk' => by omega) (fun t _ => ?_)⟩
    · funext t; rw [eS1]; simp [ms_a, f10]
    · rw [eS1]; simp [ms_a, ht]
    · rw [eS1, hl]; simp [ms_a]
    · rw [eS1]; simp [ms_a]
  -- the least
  have loop : ∀ (n k f : Nat), M.length - k < n → 1 ≤ k → k ≤ M.length → f < k → (∀ k', k' < k → ig_pk (ig_at M f) ≤ ig_pk (ig_at M k')) → wp_Mo_give_4 post n lot f k S := by
    intro n
    induction n with
    | zero => intro k f hm; omega
    | succ n ih =>
      intro k f hm k1 hk hf hmin
      have e1 : (k : Int) + 1 = ((k + 1 : Nat) : Int) := by omega
      unfold wp_Mo_give_4
      rw [h1]
      refine ⟨by unfold inR; omega, by unfold inR; omega, fun c => ⟨⟨by omega, by omega⟩, fun S1 y1 => ?_⟩, fun c => ?_⟩
      · have := wr f (by omega) (fun k' hk' => hmin k' (by omega)) S1 y1
        exact this
      · have xk := h3 k (by omega)
        have xf := h3 f (by omega)
        have ik := ok_in (ok k)
        have jf := ok_in (ok f)
        have okk := ok k
        have okf := ok f
        simp only [Int.toNat_natCast]
        rw [xk.1, xk.2, xf.1, xf.2]
        have go : ∀ b : Bool, (b = true ↔ ig_pk (ig_at M k) < ig_pk (ig_at M f)) → wp_Mo_give_62 post (wp_Mo_give_4 post n) lot f k (bI b) S := by
          intro b hb
          unfold wp_Mo_give_62 wp_Mo_give_74
          rw [e1]
          refine ⟨bI_in _, fun c1 => ih (k + 1) f (by omega) (by omega) (by omega) (by omega) (fun k' hk' => ?_), fun c1 => ih (k + 1) k (by omega) (by omega) (by omega) (by omega) (fun k' hk' => ?_)⟩
          · by_cases c2 : k' = k
            · rw [c2]
              rw [bI_0.mp c1] at hb
              have : ¬ ig_pk (ig_at M k) < ig_pk (ig_at M f) := fun q => absurd (hb.mpr q) (by decide)
              omega
            · exact hmin k' (by omega)
          · have := hb.mp (bI_ne.mp c1)
            by_cases c2 : k' = k
            · rw [c2]; omega
            · have := hmin k' (by omega); omega
        unfold ig_pk ig_ok at *
        refine ⟨⟨by omega, by omega⟩, ⟨by omega, by omega⟩, ik.1, jf.1, fun c1 => go true ⟨fun _ => by omega, fun _ => rfl⟩, fun c1 => ⟨⟨by omega, by omega⟩, ⟨by omega, by omega⟩, ik.1, jf.1, fun c2 => go false ⟨fun q => absurd q (by decide), fun q => by omega⟩, fun c2 => ⟨⟨by omega, by omega⟩, ⟨by omega, by omega⟩, ik.2, jf.2, fun c3 => go false ⟨fun q => absurd q (by decide), fun q => by omega⟩, fun c3 => go true ⟨fun _ => by omega, fun _ => rfl⟩⟩⟩⟩
  unfold wp_Mo_give
  exact ⟨M.length + 1, loop _ 1 0 (by omega) (by omega) (by omega) (by omega) (fun k' hk' => by rw [show k' = 0 by omega]; omega)⟩
end GIV
