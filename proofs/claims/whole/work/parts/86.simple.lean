section SIM2
variable {T : CS} {a b cap : Nat} {l : List (Int × Int)} {closed : Bool} {post : Int → CS → Prop} {N : Nat}
theorem sp_sim_60 (h : ptsAt T a b l cap) (hl : l ≠ []) (hok : ∀ p ∈ l, ig_ok p) (hN : N ≤ 100000) {i : Nat} (hi : i < N) {k50 : Nat → Int → Int → Int → CS → Prop} (hk : (∀ j, i < j → j < N → ic_pair l closed N i j) → k50 a (bI closed) N ((i : Int) + 1) T) (h0 : ∀ j, i < j → j < N → ¬ ic_pair l closed N i j → post 0 T) :
    ∀ (n j : Nat), N - j < n → i < j → j ≤ N → (∀ j', i < j' → j' < j → ic_pair l closed N i j') → wp_BRi_isSimple_60 post k50 n a (bI closed) N i j T := by
  intro n
  induction n with
  | zero => intro j hn; omega
  | succ n ih =>
    intro j hn hij hjN hI
    unfold wp_BRi_isSimple_60
    refine ⟨by unfold inR; omega, by unfold inR; omega, fun c => ?_, fun c => ?_⟩
    · have e : j = N := by omega
      subst e
      exact hk hI
    · have hjN' : j < N := by omega
      have go : ∀ x : Bool, x = decide (j = i + 1 ∨ (closed = true ∧ i = 0 ∧ j = N - 1)) → wp_BRi_isSimple_95 post k50 (wp_BRi_isSimple_60 post k50 n) a (bI closed) N i j (bI x) T := by
        intro x hx
        refine sp_sim_95 h hl hok hN hi hjN' x hx (fun hp => ?_) (h0 j hij hjN')
        have e2 : (j : Int) + 1 = ((j + 1 : Nat) : Int) := by omega
        rw [e2]
        refine ih (j + 1) (by omega) (by omega) (by omega) (fun j' g1 g2 => ?_)
        rcases Nat.lt_or_ge j' j with g | g
        · exact hI j' g1 g
        · have : j' = j := by omega
          rw [this]
          exact hp
      refine ⟨by unfold inR; omega, by unfold inR; omega, fun c1 => ?_, fun c1 => ⟨bI_in _, fun c2 => ?_, fun c2 => ⟨by unfold inR; omega, fun c3 => ?_, fun c3 => ⟨by unfold inR; omega, by unfold inR; omega, fun c4 => ?_, fun c4 => ?_⟩⟩⟩⟩
      · exact go true (decide_eq_true (Or.inl (by omega))).symm
      · refine go false (decide_eq_false ?_).symm
        rintro (f | f)
        · omega
        · rw [bI_0.mp c2] at f; cases f.1
      · refine go false (decide_eq_false ?_).symm
        rintro (f | f)
        · omega
        · omega
      · refine go false (decide_eq_false ?_).symm
        rintro (f | f)
        · omega
        · omega
      · refine go true (decide_eq_true (Or.inr ⟨?_, by omega, by omega⟩)).symm
        cases closed with
        | true => rfl
        | false => exact absurd rfl c2
theorem sp_sim_50 (h : ptsAt T a b l cap) (hl : l ≠ []) (hok : ∀ p ∈ l, ig_ok p) (hN : N ≤ 100000) (h1 : (∀ i j, i < j → j < N → ic_pair l closed N i j) → post 1 T) (h0 : ∀ i j, i < j → j < N → ¬ ic_pair l closed N i j → post 0 T) :
    ∀ (n i : Nat), N - i < n → i ≤ N → (∀ i' j, i' < i → i' < j → j < N → ic_pair l closed N i' j) → wp_BRi_isSimple_50 post n a (bI closed) N i T := by
  intro n
  induction n with
  | zero => intro i hn; omega
  | succ n ih =>
    intro i hn hiN hI
    unfold wp_BRi_isSimple_50
    refine ⟨by unfold inR; omega, by unfold inR; omega, fun c => ?_, fun c => ⟨N + 1, ?_⟩⟩
    · exact h1 (fun i' j g1 g2 => hI i' j (by omega) g1 g2)
    · have e2 : (i : Int) + 1 = ((i + 1 : Nat) : Int) := by omega
      rw [e2]
      refine sp_sim_60 h hl hok hN (by omega) (fun hp => ?_) (h0 i) (N + 1) (i + 1) (by omega) (by omega) (by omega) (fun j' g1 g2 => by omega)
      rw [e2]
      refine ih (i + 1) (by omega) (by omega) (fun i' j g1 g2 g3 => ?_)
      rcases Nat.lt_or_ge i' i with g | g
      · exact hI i' j g g2 g3
      · have : i' = i := by omega
        rw [this] at g2 ⊢
        exact hp j g2 g3
theorem sp_sim_20 (h : ptsAt T a b l cap) (hl : l ≠ []) (hok : ∀ p ∈ l, ig_ok p) (hN : N ≤ 100000) (h1 : (∀ i, i < N → ig_at l i ≠ ig_at l (i + 1)) → (∀ i j, i < j → j < N → ic_pair l closed N i j) → post 1 T) (h0 : ¬ ((∀ i, i < N → ig_at l i ≠ ig_at l (i + 1)) ∧ ∀ i j, i < j → j < N → ic_pair l closed N i j) → post 0 T) :
    ∀ (n i : Nat), N - i < n → i ≤ N → (∀ i', i' < i → ig_at l i' ≠ ig_at l (i' + 1)) → wp_BRi_isSimple_20 post n a (bI closed) N i T := by
  have ok := ig_at_ok hok hl
  intro n
  induction n with
  | zero => intro i hn; omega
  | succ n ih =>
    intro i hn hiN hI
    unfold wp_BRi_isSimple_20
    refine ⟨by unfold inR; omega, by unfold inR; omega, fun c => ⟨N + 1, ?_⟩, fun c => ?_⟩
    · have hz : ∀ i, i < N → ig_at l i ≠ ig_at l (i + 1) := fun i' g => hI i' (by omega)
      exact sp_sim_50 h hl hok hN (h1 hz) (fun i' j g1 g2 g3 => h0 (fun f => g3 (f.2 i' j g1 g2))) (N + 1) 0 (by omega) (by omega) (fun i' j g => by omega)
    · have e2 : (i : Int) + 1 = ((i + 1 : Nat) : Int) := by omega
      rw [e2]
      refine ⟨h.1, sp_at_nat h hl (by omega) ⟨h.1, sp_at_nat h hl (by omega) ⟨pkd_R (ok _), pkd_R (ok _), fun c2 => ?_, fun c2 => ?_⟩⟩⟩
      · refine ih (i + 1) (by omega) (by omega) (fun i' g => ?_)
        rcases Nat.lt_or_ge i' i with g2 | g2
        · exact hI i' g2
        · have : i' = i := by omega
          rw [this]
          exact fun f => c2 (by rw [f])
      · exact h0 (fun f => f.1 i (by omega) ((pkd_inj (ok _) (ok _)).mp c2))
theorem sp_BRi_isSimple (h : ptsAt T a b l cap) (hl : l ≠ []) (hok : ∀ p ∈ l, ig_ok p) (h1 : ic_simple l closed → post 1 T) (h0 : ¬ ic_simple l closed → post 0 T) : wp_BRi_isSimple post a (bI closed) T := by
  have hpos : 0 < l.length := List.length_pos_iff.mpr hl
  have hlen : fi T a 1 = l.length := h.2.2.2.2.1
  have hc := h.2.2.2.2.2.1
  have go : ∀ N : Nat, N = (if closed then l.length else l.length - 1) → wp_BRi_isSimple_17 post a (bI closed) N T := by
    intro N hN
    have hN' : N ≤ 100000 := by rw [hN]; split <;> omega
    refine ⟨N + 1, sp_sim_20 (N := N) h hl hok hN' (fun g1 g2 => h1 ?_) (fun g => h0 (fun f => g ?_)) (N + 1) 0 (by omega) (by omega) (fun i' g => by omega)⟩
    · unfold ic_simple
      rw [← hN]
      exact ⟨g1, g2⟩
    · unfold ic_simple at f
      rw [← hN] at f
      exact f
  unfold wp_BRi_isSimple
  refine ⟨bI_in _, fun c => ⟨h.1, ?_⟩, fun c => ⟨h.1, ?_⟩⟩
  · have e := bI_0.mp c
    have e3 : fi T a 1 - 1 = ((l.length - 1 : Nat) : Int) := by rw [hlen]; omega
    rw [e3]
    exact go _ (by rw [e]; rfl)
  · rw [hlen]
    refine go _ ?_
    cases closed with
    | true => rfl
    | false => exact absurd rfl c
end SIM2
