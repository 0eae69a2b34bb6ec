/-! Rings.isSimple answers ic_simple. -/
theorem ig_atI_nat (l : List (Int × Int)) (i : Nat) : ig_atI l (i : Int) = ig_at l i := by
  unfold ig_atI ig_at
  congr 1
theorem pkd_inj {a b : Int × Int} (ha : ig_ok a) (hb : ig_ok b) : ig_pk a = ig_pk b ↔ a = b := by
  constructor
  · intro h
    unfold ig_ok at ha hb
    unfold ig_pk at h
    exact Prod.ext (by omega) (by omega)
  · intro h
    rw [h]
theorem sp_at_nat {post : Int → CS → Prop} {T : CS} {a b cap : Nat} {l : List (Int × Int)} {i : Nat} (h : ptsAt T a b l cap) (hl : l ≠ []) (hi : i ≤ 200000) (hp : post (ig_pk (ig_at l i)) T) : wp_BPt_at post a (i : Int) T :=
  sp_BPt_at h hl (by unfold inR; omega) (by rw [ig_atI_nat]; exact hp)
section SIM
variable {T : CS} {a b cap : Nat} {l : List (Int × Int)} {closed : Bool} {post : Int → CS → Prop} {N : Nat}
def ic_pair (l : List (Int × Int)) (closed : Bool) (N i j : Nat) : Prop := ic_meeting (ig_at l i) (ig_at l (i + 1)) (ig_at l j) (ig_at l (j + 1)) = if j = i + 1 ∨ (closed = true ∧ i = 0 ∧ j = N - 1) then 1 else 0
theorem sp_sim_95 (h : ptsAt T a b l cap) (hl : l ≠ []) (hok : ∀ p ∈ l, ig_ok p) (hN : N ≤ 100000) {i j : Nat} (hi : i < N) (hj : j < N) {k50 : Nat → Int → Int → Int → CS → Prop} {k60 : Nat → Int → Int → Int → Int → CS → Prop} (x : Bool) (hx : x = decide (j = i + 1 ∨ (closed = true ∧ i = 0 ∧ j = N - 1)))
    (h1 : ic_pair l closed N i j → k60 a (bI closed) N i ((j : Int) + 1) T) (h0 : ¬ ic_pair l closed N i j → post 0 T) : wp_BRi_isSimple_95 post k50 k60 a (bI closed) N i j (bI x) T := by
  have ok := ig_at_ok hok hl
  unfold wp_BRi_isSimple_95
  have e1 : (i : Int) + 1 = ((i + 1 : Nat) : Int) := by omega
  have e2 : (j : Int) + 1 = ((j + 1 : Nat) : Int) := by omega
  rw [e1, e2]
  rw [e2] at h1
  refine ⟨h.1, sp_at_nat h hl (by omega) ⟨h.1, sp_at_nat h hl (by omega) ⟨h.1, sp_at_nat h hl (by omega) ⟨h.1, sp_at_nat h hl (by omega) (sp_BPl_meeting (ok _) (ok _) (ok _) (ok _) ?_)⟩⟩⟩⟩
  have fin : ∀ m : Int, (m = 0 ∨ m = 1) → (ic_pair l closed N i j ↔ ic_meeting (ig_at l i) (ig_at l (i + 1)) (ig_at l j) (ig_at l (j + 1)) = m) → wp_BRi_isSimple_140 post k50 k60 a (bI closed) N i j m (ic_meeting (ig_at l i) (ig_at l (i + 1)) (ig_at l j) (ig_at l (j + 1))) T := by
    intro m hm hiff
    unfold wp_BRi_isSimple_140
    rw [e2]
    have h012 := ic_meeting_012 (ig_at l i) (ig_at l (i + 1)) (ig_at l j) (ig_at l (j + 1))
    refine ⟨by unfold inR; omega, by unfold inR; omega, fun c => h1 (hiff.mpr c), fun c => h0 (fun f => c (hiff.mp f))⟩
  refine ⟨bI_in _, fun c => ?_, fun c => ?_⟩
  · refine fin 0 (Or.inl rfl) ?_
    have hx0 := bI_0.mp c
    rw [hx0] at hx
    unfold ic_pair
    rw [if_neg (of_decide_eq_false hx.symm)]
  · refine fin 1 (Or.inr rfl) ?_
    have hx1 : x = true := by
      cases x with
      | true => rfl
      | false => exact absurd rfl c
    rw [hx1] at hx
    unfold ic_pair
    rw [if_pos (of_decide_eq_true hx.symm)]
end SIM
