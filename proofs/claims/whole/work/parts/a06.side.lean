/-! the reference: sideOf, isWithin -/
theorem bex (P : Prop) : ∃ b : Bool, b = true ↔ P := by
  by_cases h : P
  · exact ⟨true, fun _ => h, fun _ => rfl⟩
  · exact ⟨false, fun f => absurd f (by decide), fun f => absurd f h⟩
section SID
variable {S : MS} {R : AR}
theorem WR.ok (w : WR R) {l : Nat} (h1 : 1 ≤ l) (h2 : l ≤ R.1 7 0) (k : Nat) : ig_ok (ig_at (aRing R l) k) := ig_at_ok (w.rg h1 h2).1 (w.rg h1 h2).ne k
theorem sp_Mo_sideOf {post : Int → MS → Prop} (h : MD S R) (w : WR R) {l : Nat} (h1 : 1 ≤ l) (h2 : l ≤ R.1 7 0) {p : PT} (hp : ig_ok p) (pf : ∀ i, i < (aRing R l).length → ig_half (aRing R l) i p → post (i : Int) S) (pn : (∀ i, i < (aRing R l).length → ¬ ig_half (aRing R l) i p) → post (-1) S) : wp_Mo_sideOf post l p.1 p.2 S := by
  have ok := fun k => w.ok h1 h2 k
  have hr := w.rg h1 h2
  have wl0 := w.1.1
  have hlen := (h.2.2.1 l h1 h2).1
  have hu := @ig_half_uniq (aRing R l) hr.2.2.1
  have hr2 := hr.2.1
  have ip := ok_in hp
  have loop : ∀ (n k : Nat) (v : Int), (aRing R l).length - k < n → k ≤ (aRing R l).length → ((v = -1 ∧ ∀ k', k' < k → ¬ ig_half (aRing R l) k' p) ∨ ∃ i : Nat, i < k ∧ ig_half (aRing R l) i p ∧ v = i) → wp_Mo_sideOf_6 post n l p.1 p.2 v k S := by
    intro n
    induction n with
    | zero => intro k v hn; omega
    | succ n ih =>
      intro k v hn hk hv
      unfold wp_Mo_sideOf_6
      rw [Int.toNat_natCast, hlen]
      have e1 : (k : Int) + 1 = ((k + 1 : Nat) : Int) := by omega
      have hnn : ¬ ((aRing R l).length : Int) ≤ (k : Int) → (aRing R l).length - (k + 1) < n ∧ k + 1 ≤ (aRing R l).length := by clear hv; omega
      refine ⟨⟨by omega, by omega⟩, by unfold inR; omega, by unfold inR; omega, fun c => ?_, fun c => ?_⟩
      · have ek : k = (aRing R l).length := by omega
        rcases hv with ⟨f, g⟩ | ⟨i, f, g, e⟩
        · rw [f]; exact pn (fun i hi => g i (by omega))
        · rw [e]; exact pf i (by omega) g
      · have hk' : k < (aRing R l).length := by omega
        have fin : ∀ v' : Int, ((ig_half (aRing R l) k p ∧ v' = k) ∨ (¬ ig_half (aRing R l) k p ∧ v' = v)) → wp_Mo_sideOf_106 post (wp_Mo_sideOf_6 post n) l p.1 p.2 k v' S := by
          intro v' hv'
          unfold wp_Mo_sideOf_106
          rw [e1]
          refine ih (k + 1) v' (hnn c).1 (hnn c).2 ?_
          rcases hv' with ⟨f, g⟩ | ⟨f, g⟩
          · exact Or.inr ⟨k, by omega, f, g⟩
          · rw [g]
            rcases hv with ⟨a, b⟩ | ⟨i, a, b, d⟩
            · refine Or.inl ⟨a, fun k' hk' => ?_⟩
              by_cases c2 : k' = k
              · rw [c2]; exact f
              · exact b k' (by omega)
            · exact Or.inr ⟨i, by omega, b, d⟩
        have k48 : ∀ b : Bool, (b = true ↔ p = ig_at (aRing R l) (k + 1)) → wp_Mo_sideOf_48 post (wp_Mo_sideOf_6 post n) l p.1 p.2 v k (bI b) S := by
          intro b hb
          unfold wp_Mo_sideOf_48
          rw [e1]
          refine sp_Mo_cornerX h w h1 h2 (by omega) (sp_Mo_cornerY h w h1 h2 (by omega) (sp_Mo_cornerX h w h1 h2 (by omega) (sp_Mo_cornerY h w h1 h2 (by omega) (sp_Mo_isOn (ok k) (ok (k + 1)) hp ⟨bI_in _, fun c1 => fin v (Or.inr ⟨?_, rfl⟩), fun c1 => ⟨bI_in _, fun c2 => fin v (Or.inr ⟨?_, rfl⟩), fun c2 => fin k (Or.inl ⟨⟨bI_ne.mp c1, ?_⟩, rfl⟩)⟩⟩))))
          · intro f; have f1 := f.1; rw [bI_0.mp c1] at f1; cases f1
          · intro f; exact f.2 (hb.mp (bI_ne.mp c2))
          · intro f; rw [bI_0.mp c2] at hb; exact absurd (hb.mpr f) (by decide)
        rw [e1]
        have io := ok_in (ok (k + 1))
        refine sp_Mo_cornerX h w h1 h2 (by omega) ⟨io.1, ip.1, fun c1 => k48 false ⟨fun f => absurd f (by decide), fun f => absurd (by rw [f]) c1⟩, fun c1 => sp_Mo_cornerY h w h1 h2 (by omega) ⟨io.2, ip.2, fun c2 => k48 false ⟨fun f => absurd f (by decide), fun f => absurd (by rw [f]) c2⟩, fun c2 => k48 true ⟨fun _ => Prod.ext c1.symm c2.symm, fun _ => rfl⟩⟩⟩
  unfold wp_Mo_sideOf
  exact ⟨(aRing R l).length + 1, loop _ 0 (-1) (by omega) (by omega) (Or.inl ⟨rfl, fun k' hk' => by omega⟩)⟩
theorem igd_bd {a b z : PT} (ha : ig_ok a) (hb : ig_ok b) (hz : (0 ≤ z.1 ∧ z.1 ≤ 40000) ∧ 0 ≤ z.2 ∧ z.2 ≤ 40000) : -6400000000 ≤ igd_turn a b z ∧ igd_turn a b z ≤ 6400000000 := by
  have bd : ∀ x y : Int, -40000 ≤ x → x ≤ 40000 → -40000 ≤ y → y ≤ 40000 → -1600000000 ≤ x * y ∧ x * y ≤ 1600000000 := by
    intro x y x0 x1 y0 y1
    rcases Int.le_total 0 x with hx | hx
    · have a1 := Int.mul_le_mul_of_nonneg_left y1 hx
      have a2 := Int.mul_le_mul_of_nonneg_left y0 hx
      omega
    · have hx' : 0 ≤ -x := by omega
      have a1 := Int.mul_le_mul_of_nonneg_left y1 hx'
      have a2 := Int.mul_le_mul_of_nonneg_left y0 hx'
      rw [Int.neg_mul, Int.neg_mul] at a1 a2
      omega
  unfold ig_ok at ha hb
  have m1 := bd (2 * b.1 - 2 * a.1) (z.2 - 2 * a.2) (by omega) (by omega) (by omega) (by omega)
  have m2 := bd (2 * b.2 - 2 * a.2) (z.1 - 2 * a.1) (by omega) (by omega) (by omega) (by omega)
  unfold igd_turn
  omega
theorem sp_Mo_isWithin_290 {post : Int → MS → Prop} {k9 : Int → Int → Int → Int → Int → Int → MS → Prop} {v1 v2 v3 v5 v6 : Int} {a : Bool} (hk : k9 v1 v2 v3 (bI (!a)) v5 (v6 + 1) S) : wp_Mo_isWithin_290 post k9 v1 v2 v3 (bI a) v5 v6 S := by
  unfold wp_Mo_isWithin_290 wp_Mo_isWithin_300 wp_Mo_isWithin_302
  refine ⟨bI_in _, fun c => ?_, fun c => ?_⟩
  · rw [bI_ne.mp c] at hk; exact hk
  · rw [bI_0.mp c] at hk; exact hk
theorem sp_Mo_isWithin_242 {post : Int → MS → Prop} {k9 : Int → Int → Int → Int → Int → Int → MS → Prop} {v1 v2 v3 v6 v9 v13 v15 s0 : Int} {a c : Bool} (h3 : 0 ≤ v3 ∧ v3 ≤ 40000) (h9 : 0 ≤ v9 ∧ v9 ≤ 40000) (h13 : 0 ≤ v13 ∧ v13 ≤ 40000) (h15 : -6400000000 ≤ v15 ∧ v15 ≤ 6400000000)
    (hc : c = true ↔ (v9 ≤ v3 ∧ v3 < v13 ∧ 0 < v15) ∨ (v13 ≤ v3 ∧ v3 < v9 ∧ v15 < 0)) (hk : k9 v1 v2 v3 (bI (a != c)) s0 (v6 + 1) S) : wp_Mo_isWithin_242 post k9 v1 v2 v3 (bI a) v6 v9 v13 v15 s0 S := by
  have yes : c = true → wp_Mo_isWithin_290 post k9 v1 v2 v3 (bI a) s0 v6 S := by
    intro f; rw [f] at hk
    refine sp_Mo_isWithin_290 ?_
    cases a <;> exact hk
  have no : ¬ (c = true) → wp_Mo_isWithin_302 post k9 v1 v2 v3 (bI a) s0 v6 S := by
    intro f
    have f : c = false := by cases c with | true => exact absurd rfl f | false => rfl
    rw [f] at hk
    unfold wp_Mo_isWithin_302
    cases a <;> exact hk
  have k267 : ¬ (v9 ≤ v3 ∧ v3 < v13 ∧ 0 < v15) → wp_Mo_isWithin_267 post k9 v1 v2 v3 (bI a) s0 v6 v9 v13 v15 S := by
    intro f
    unfold wp_Mo_isWithin_267
    refine ⟨by unfold inR; omega, by unfold inL; omega, by unfold inL; omega, fun c1 => no (fun g => ?_), fun c1 => ⟨by unfold inR; omega, by unfold inL; omega, by unfold inL; omega, fun c2 => no (fun g => ?_), fun c2 => ⟨by unfold inL; omega, fun c3 => no (fun g => ?_), fun c3 => yes (hc.mpr (Or.inr ⟨by omega, by omega, by omega⟩))⟩⟩⟩
    · rcases hc.mp g with k | k
      · exact f k
      · omega
    · rcases hc.mp g with k | k
      · exact f k
      · omega
    · rcases hc.mp g with k | k
      · exact f k
      · omega
  unfold wp_Mo_isWithin_242
  refine ⟨by unfold inR; omega, by unfold inL; omega, by unfold inL; omega, fun c1 => k267 (fun f => by omega), fun c1 => ⟨by unfold inR; omega, by unfold inL; omega, by unfold inL; omega, fun c2 => k267 (fun f => by omega), fun c2 => ⟨by unfold inL; omega, fun c3 => yes (hc.mpr (Or.inl ⟨by omega, by omega, by omega⟩)), fun c3 => k267 (fun f => by omega)⟩⟩⟩
theorem sp_Mo_isWithin_213 {post : Int → MS → Prop} {k9 : Int → Int → Int → Int → Int → Int → MS → Prop} {v1 v2 v3 v4 v6 v9 v13 v15 : Int} {o o' x y : Bool} (h15 : -6400000000 ≤ v15 ∧ v15 ≤ 6400000000) (ho : o' = true ↔ o = true ∨ (v15 = 0 ∧ x = true ∧ y = true)) (hk : wp_Mo_isWithin_242 post k9 v1 v2 v3 v4 v6 v9 v13 v15 (bI o') S) : wp_Mo_isWithin_213 post k9 v1 v2 v3 v4 (bI o) v6 v9 v13 v15 (bI x) (bI y) S := by
  have yes : o' = true → wp_Mo_isWithin_242 post k9 v1 v2 v3 v4 v6 v9 v13 v15 1 S := by intro f; rw [f] at hk; exact hk
  have no : ¬ (o' = true) → wp_Mo_isWithin_242 post k9 v1 v2 v3 v4 v6 v9 v13 v15 0 S := by
    intro f
    have f : o' = false := by cases o' with | true => exact absurd rfl f | false => rfl
    rw [f] at hk; exact hk
  unfold wp_Mo_isWithin_213
  refine ⟨bI_in _, fun c => yes (ho.mpr (Or.inl (bI_ne.mp c))), fun c => ⟨by unfold inL; omega, fun c1 => no (fun g => ?_), fun c1 => ⟨bI_in _, fun c2 => no (fun g => ?_), fun c2 => ⟨bI_in _, fun c3 => no (fun g => ?_), fun c3 => yes (ho.mpr (Or.inr ⟨c1, bI_ne.mp c2, bI_ne.mp c3⟩))⟩⟩⟩⟩
  · rcases ho.mp g with f | f
    · rw [bI_0.mp c] at f; cases f
    · exact c1 f.1
  · rcases ho.mp g with f | f
    · rw [bI_0.mp c] at f; cases f
    · have f1 := f.2.1; rw [bI_0.mp c2] at f1; cases f1
  · rcases ho.mp g with f | f
    · rw [bI_0.mp c] at f; cases f
    · have f1 := f.2.2; rw [bI_0.mp c3] at f1; cases f1
theorem sp_Mo_isWithin {post : Int → MS → Prop} (h : MD S R) (w : WR R) {l : Nat} (h1 : 1 ≤ l) (h2 : l ≤ R.1 7 0) {z : PT} (hz : (0 ≤ z.1 ∧ z.1 ≤ 40000) ∧ 0 ≤ z.2 ∧ z.2 ≤ 40000) (p1 : igd_in (aRing R l) z → post 1 S) (p0 : ¬ igd_in (aRing R l) z → post 0 S) : wp_Mo_isWithin post l z.1 z.2 S := by
  have ok := fun k => w.ok h1 h2 k
  have hr := w.rg h1 h2
  have wl0 := w.1.1
  have hlen := (h.2.2.1 l h1 h2).1
  have hr2 := hr.2.1
  have loop : ∀ (n k : Nat) (o : Bool), (aRing R l).length - k < n → k ≤ (aRing R l).length → (o = true ↔ ∃ i, i < k ∧ igd_on (ig_at (aRing R l) i) (ig_at (aRing R l) (i + 1)) z) → wp_Mo_isWithin_9 post n l z.1 z.2 (bI (igd_par (aRing R l) z k)) (bI o) k S := by
    intro n
    induction n with
    | zero => intro k o hn; omega
    | succ n ih =>
      intro k o hn hk ho
      unfold wp_Mo_isWithin_9
      rw [Int.toNat_natCast, hlen]
      have e1 : (k : Int) + 1 = ((k + 1 : Nat) : Int) := by omega
      have hnn : ¬ ((aRing R l).length : Int) ≤ (k : Int) → (aRing R l).length - (k + 1) < n := by clear ho; omega
      refine ⟨⟨by omega, by clear ho; omega⟩, by unfold inR; clear ho; omega, by unfold inR; clear ho; omega, fun c => ?_, fun c => ?_⟩
      · have ek : k = (aRing R l).length := by clear ho; omega
        subst ek
        refine ⟨bI_in _, fun c1 => p0 (fun f => ?_), fun c1 => ⟨bI_in _, fun c2 => p0 (fun f => ?_), fun c2 => p1 ⟨fun f => ?_, bI_ne.mp c1⟩⟩⟩
        · have f1 := f.2; rw [bI_0.mp c1] at f1; cases f1
        · exact f.1 (ho.mp (bI_ne.mp c2))
        · rw [bI_0.mp c2] at ho; exact absurd (ho.mpr f) (by decide)
      · have hk' : k < (aRing R l).length := by clear ho; omega
        have hnn := hnn c
        have oa := ok k
        have ob := ok (k + 1)
        have hb := igd_bd oa ob hz
        rw [e1]
        refine sp_Mo_cornerX h w h1 h2 (by clear ho; omega) ⟨(ok_in oa).1, fun v7 e7 => sp_Mo_cornerY h w h1 h2 (by clear ho; omega) ⟨(ok_in oa).2, fun v9 e9 => sp_Mo_cornerX h w h1 h2 (by clear ho; omega) ⟨(ok_in ob).1, fun v11 e11 => sp_Mo_cornerY h w h1 h2 (by clear ho; omega) ⟨(ok_in ob).2, fun v13 e13 => ⟨by unfold inR; clear ho; omega, by unfold inR; clear ho; omega, fun v15 e15 => ?_⟩⟩⟩⟩⟩
        have e15' : v15 = igd_turn (ig_at (aRing R l) k) (ig_at (aRing R l) (k + 1)) z := by rw [e15, e7, e9, e11, e13]; rfl
        have tail : ∀ x : Bool, (x = true ↔ min v7 v11 ≤ z.1 ∧ z.1 ≤ max v7 v11) → wp_Mo_isWithin_158 post (wp_Mo_isWithin_9 post n) l z.1 z.2 (bI (igd_par (aRing R l) z k)) (bI o) k v9 v13 v15 (bI x) S := by
          intro x hx
          unfold ig_ok at oa ob
          have go : ∀ y : Bool, (y = true ↔ min v9 v13 ≤ z.2 ∧ z.2 ≤ max v9 v13) → wp_Mo_isWithin_213 post (wp_Mo_isWithin_9 post n) l z.1 z.2 (bI (igd_par (aRing R l) z k)) (bI o) k v9 v13 v15 (bI x) (bI y) S := by
            intro y hy
            have q1 : -6400000000 ≤ v15 ∧ v15 ≤ 6400000000 := by rw [e15']; exact hb
            have q2 : 0 ≤ v9 ∧ v9 ≤ 40000 := by clear ho hx hy; omega
            have q3 : 0 ≤ v13 ∧ v13 ≤ 40000 := by clear ho hx hy; omega
            obtain ⟨o', ho'⟩ := bex (o = true ∨ igd_on (ig_at (aRing R l) k) (ig_at (aRing R l) (k + 1)) z)
            refine sp_Mo_isWithin_213 (o' := o') q1 ?_ (sp_Mo_isWithin_242 (c := igd_cr (ig_at (aRing R l) k) (ig_at (aRing R l) (k + 1)) z) hz.2 q2 q3 q1 ?_ ?_)
            · rw [ho', hx, hy]
              unfold igd_on
              rw [e15', e7, e9, e11, e13]
            · unfold igd_cr
              rw [decide_eq_true_eq, e15', e9, e13]
            · rw [e1]
              refine ih (k + 1) _ hnn hk' ?_
              rw [ho', ho]
              constructor
              · rintro (⟨i, f, g⟩ | f)
                · exact ⟨i, Nat.lt_succ_of_lt f, g⟩
                · exact ⟨k, Nat.lt_succ_self k, f⟩
              · rintro ⟨i, f, g⟩
                by_cases ci : i = k
                · rw [ci] at g; exact Or.inr g
                · exact Or.inl ⟨i, Nat.lt_of_le_of_ne (Nat.le_of_lt_succ f) ci, g⟩
          clear ho
          unfold wp_Mo_isWithin_158
          refine ⟨by unfold inL; omega, by unfold inL; omega, fun c1 => ⟨by unfold inR; omega, by unfold inL; omega, by unfold inL; omega, fun c2 => go false ⟨fun f => absurd f (by decide), fun f => by omega⟩, fun c2 => ⟨by unfold inR; omega, by unfold inL; omega, by unfold inL; omega, fun c3 => go false ⟨fun f => absurd f (by decide), fun f => by omega⟩, fun c3 => go true ⟨fun _ => by omega, fun _ => rfl⟩⟩⟩, fun c1 => ⟨by unfold inR; omega, by unfold inL; omega, by unfold inL; omega, fun c2 => go false ⟨fun f => absurd f (by decide), fun f => by omega⟩, fun c2 => ⟨by unfold inR; omega, by unfold inL; omega, by unfold inL; omega, fun c3 => go false ⟨fun f => absurd f (by decide), fun f => by omega⟩, fun c3 => go true ⟨fun _ => by omega, fun _ => rfl⟩⟩⟩⟩
        unfold ig_ok at oa ob
        clear ho
        refine ⟨by unfold inL; omega, by unfold inL; omega, fun c1 => ⟨by unfold inR; omega, by unfold inL; omega, by unfold inL; omega, fun c2 => tail false ⟨fun f => absurd f (by decide), fun f => by omega⟩, fun c2 => ⟨by unfold inR; omega, by unfold inL; omega, by unfold inL; omega, fun c3 => tail false ⟨fun f => absurd f (by decide), fun f => by omega⟩, fun c3 => tail true ⟨fun _ => by omega, fun _ => rfl⟩⟩⟩, fun c1 => ⟨by unfold inR; omega, by unfold inL; omega, by unfold inL; omega, fun c2 => tail false ⟨fun f => absurd f (by decide), fun f => by omega⟩, fun c2 => ⟨by unfold inR; omega, by unfold inL; omega, by unfold inL; omega, fun c3 => tail false ⟨fun f => absurd f (by decide), fun f => by omega⟩, fun c3 => tail true ⟨fun _ => by omega, fun _ => rfl⟩⟩⟩⟩
  unfold wp_Mo_isWithin
  exact ⟨(aRing R l).length + 1, loop _ 0 false (by omega) (by omega) ⟨fun f => absurd f (by decide), fun ⟨i, f, _⟩ => absurd f (Nat.not_lt_zero i)⟩⟩
end SID
