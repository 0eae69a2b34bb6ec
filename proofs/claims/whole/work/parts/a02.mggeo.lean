section MG
variable {A B : List PT} {st s M : Nat}
/-- the outline of two lots that don't overlap, along one line that all common corners belong to -/
theorem mg_geo (hA : gx_simple (rgn A)) (hB : gx_simple (rgn B)) (a0 : A ≠ []) (b0 : B ≠ []) (wA : ∀ z, 0 ≤ gx_wn (rgn A) z) (wB : ∀ z, 0 ≤ gx_wn (rgn B) z) (hI : ∀ z, gx_wn (rgn A) z + gx_wn (rgn B) z ≤ 1)
    (h : mg_line (ig_refine A B) (ig_refine B A) st s M) : gx_simple (rgn (mg_out (ig_refine A B) (ig_refine B A) st s M)) ∧ ∀ z, gx_wn (rgn (mg_out (ig_refine A B) (ig_refine B A) st s M)) z = gx_wn (rgn A) z + gx_wn (rgn B) z := by
  have no1 := fun {p : PT} => @ig_refine_no A B hA hB a0 b0 p
  have no2 := fun {p : PT} => @ig_refine_no B A hB hA b0 a0 p
  obtain ⟨sL, _, mL, _⟩ := ig_refine_spec (O := B) hA a0
  obtain ⟨sR, _, mR, _⟩ := ig_refine_spec (O := A) hB b0
  rw [mg_out_rgn h]
  have l0 : ig_refine A B ≠ [] := by
    intro f
    have := mL _ (ig_at_mem a0 0)
    rw [f] at this; simp at this
  have r0 : ig_refine B A ≠ [] := by
    intro f
    have := mR _ (ig_at_mem b0 0)
    rw [f] at this; simp at this
  obtain ⟨sL1, sL2, _⟩ := sL
  obtain ⟨sR1, sR2, _⟩ := sR
  generalize ig_refine A B = L at *
  generalize ig_refine B A = R at *
  obtain ⟨h1, h2, h3, h4, h5, h6, h7⟩ := h
  have hwL : ∀ z, 0 ≤ gx_wn (rgn L) z := fun z => by rw [sL2]; exact wA z
  have hwR : ∀ z, 0 ≤ gx_wn (rgn R) z := fun z => by rw [sR2]; exact wB z
  have nL : rgn L ≠ [] := by intro f; have := rgn_len L; rw [f] at this; exact l0 (List.length_eq_zero_iff.mp this.symm)
  have nR : rgn R ≠ [] := by intro f; have := rgn_len R; rw [f] at this; exact r0 (List.length_eq_zero_iff.mp this.symm)
  have rL := gx_ccw sL1 nL hwL
  have rR := gx_ccw sR1 nR hwR
  have hII : ∀ z, gx_wn (rgn L) z + gx_wn (rgn R) z ≤ 1 := fun z => by rw [sL2, sR2]; exact hI z
  -- the rings from the line's end on
  have eL : sdi L (st + s) L.length = sdi L (st + s) (L.length - s) ++ sdi L st s := by
    have := sdi_add L (st + s) (L.length - s) s
    rw [show L.length - s + s = L.length by omega, show st + s + (L.length - s) = st + L.length by omega, sdi_per] at this
    exact this
  have eR : sdi R M R.length = sdi R M (R.length - s) ++ gx_rev (sdi L st s) := by
    have := sdi_add R M (R.length - s) s
    rw [show R.length - s + s = R.length by omega, show M + (R.length - s) = (M - s) + R.length by omega, sdi_per, sdi_rev h4 h5] at this
    exact this
  obtain ⟨qL1, qL2⟩ := sdi_rot sL1 (st + s)
  obtain ⟨qR1, qR2⟩ := sdi_rot sR1 M
  have ends : ig_at R M = ig_at L st := by have := h5 0 (by omega); simpa using this
  have ends2 : ig_at R (M + (R.length - s)) = ig_at L (st + s) := by
    rw [show M + (R.length - s) = (M - s) + R.length by omega, ig_at_len]; exact h5 s (by omega)
  have end3 : ig_at L (st + s + (L.length - s)) = ig_at L st := by
    rw [show st + s + (L.length - s) = st + L.length by omega, ig_at_len]
  have nd := rgn_nodup sL1
  have hne : ig_at L (st + s) ≠ ig_at L st := by
    intro f
    have := ig_at_inj nd l0 f
    rw [Nat.add_mod] at this
    rw [Nat.mod_eq_of_lt h2] at this
    have hs : st % L.length < L.length := Nat.mod_lt _ (by omega)
    rcases Nat.lt_or_ge (st % L.length + s) L.length with c | c
    · rw [Nat.mod_eq_of_lt c] at this; omega
    · rw [Nat.mod_eq_sub_mod c, Nat.mod_eq_of_lt (by omega)] at this; omega
  have oP : gx_open (sdi L (st + s) (L.length - s)) (ig_c (ig_at L (st + s))) (ig_c (ig_at L st)) := by
    rw [eL] at qL1
    have hp := sdi_path L (st + s) (L.length - s)
    rw [end3] at hp
    have : sdi L st s = (ig_c (ig_at L st), ig_c (ig_at L (st + 1))) :: sdi L (st + 1) (s - 1) := by
      rw [show s = 1 + (s - 1) by omega, sdi_add]; simp [sdi]
    rw [this] at qL1
    exact gx_open_part qL1 hp rfl
  have oQ : gx_open (sdi R M (R.length - s)) (ig_c (ig_at L st)) (ig_c (ig_at L (st + s))) := by
    rw [eR, ← sdi_rev h4 h5] at qR1
    have hp := sdi_path R M (R.length - s)
    rw [ends, ends2] at hp
    have e : ig_at R (M - s) = ig_at L (st + s) := h5 s (by omega)
    have : sdi R (M - s) s = (ig_c (ig_at R (M - s)), ig_c (ig_at R (M - s + 1))) :: sdi R (M - s + 1) (s - 1) := by
      conv => lhs; rw [show s = 1 + (s - 1) by omega, sdi_add]
      simp [sdi]
      rw [show 1 + (s - 1) = s by omega]
      simp
    rw [this] at qR1
    exact gx_open_part qR1 hp (by rw [e])
  -- a corner of both, on the part of L that is left, is an end of the line
  have corner : ∀ x, st + s ≤ x → x ≤ st + L.length → ig_at L x ∈ R → ig_at L x = ig_at L (st + s) ∨ ig_at L x = ig_at L st := by
    intro x x1 x2 hx
    have hm : x % L.length < L.length := Nat.mod_lt _ (by omega)
    obtain ⟨k, hk, e⟩ := h7 (x % L.length) hm (by unfold mg_cp; rw [ig_at_mod]; exact decide_eq_true hx)
    rw [Nat.mod_mod] at e
    have e' : (x - (st + k)) % L.length = 0 := Nat.sub_mod_eq_zero_of_mod_eq e
    by_cases c : x - (st + k) = 0
    · left
      have : x = st + s := by omega
      rw [this]
    · right
      have : L.length ≤ x - (st + k) := by
        rcases Nat.lt_or_ge (x - (st + k)) L.length with c2 | c2
        · rw [Nat.mod_eq_of_lt c2] at e'; exact absurd e' c
        · exact c2
      have : x = st + L.length := by omega
      rw [this, ig_at_len]
  refine ⟨gx_close oP oQ (ig_ne hne) ?_, fun z => ?_⟩
  · intro a ha b hb t u t0 t1 u0 u1 e
    obtain ⟨k, hk, ea⟩ := sdi_mem.mp ha
    obtain ⟨j, hj, eb⟩ := sdi_mem.mp hb
    subst ea; subst eb
    have e : gx_at (ig_c (ig_at L (st + s + k))) (ig_c (ig_at L (st + s + k + 1))) t = gx_at (ig_c (ig_at R (M + j))) (ig_c (ig_at R (M + j + 1))) u := e
    show gx_at (ig_c (ig_at L (st + s + k))) (ig_c (ig_at L (st + s + k + 1))) t = _ ∨ gx_at (ig_c (ig_at L (st + s + k))) (ig_c (ig_at L (st + s + k + 1))) t = _
    -- a corner of L
    have cL : ∀ x, st + s ≤ x → x ≤ st + L.length → gx_at (ig_c (ig_at L (st + s + k))) (ig_c (ig_at L (st + s + k + 1))) t = ig_c (ig_at L x) → gx_at (ig_c (ig_at L (st + s + k))) (ig_c (ig_at L (st + s + k + 1))) t = ig_c (ig_at L (st + s)) ∨ gx_at (ig_c (ig_at L (st + s + k))) (ig_c (ig_at L (st + s + k + 1))) t = ig_c (ig_at L st) := by
      intro x x1 x2 ex
      rw [ex]
      have hx : ig_at L x ∈ R := by
        by_cases c0 : u = 0
        · have : ig_at R (M + j) = ig_at L x := by
            apply ig_c_inj.mp
            rw [← ex, e, c0, gx_at0]
          rw [← this]; exact ig_at_mem r0 _
        · by_cases c1 : u = 1
          · have : ig_at R (M + j + 1) = ig_at L x := by
              apply ig_c_inj.mp
              rw [← ex, e, c1, gx_at1]
            rw [← this]; exact ig_at_mem r0 _
          · exact (no1 (ig_at_mem l0 x) (j := M + j) (u := u) (by grind) (by grind) (e.symm.trans ex)).elim
      rcases corner x x1 x2 hx with f | f
      · left; rw [f]
      · right; rw [f]
    by_cases c0 : t = 0
    · exact cL (st + s + k) (by omega) (by omega) (by rw [c0, gx_at0])
    · by_cases c1 : t = 1
      · exact cL (st + s + k + 1) (by omega) (by omega) (by rw [c1, gx_at1])
      · have tt0 : 0 < t := by grind
        have tt1 : t < 1 := by grind
        exfalso
        have hu : u ≠ 0 ∧ u ≠ 1 := by
          constructor
          · intro f
            exact no2 (ig_at_mem r0 (M + j)) (j := st + s + k) (u := t) tt0 tt1 (by rw [e, f, gx_at0])
          · intro f
            exact no2 (ig_at_mem r0 (M + j + 1)) (j := st + s + k) (u := t) tt0 tt1 (by rw [e, f, gx_at1])
        have uu0 : 0 < u := by grind
        have uu1 : u < 1 := by grind
        obtain ⟨m, m0, m1, m2⟩ := gx_against sL1 sR1 rL rR hII (sdi_rgn l0 (st + s + k)) (sdi_rgn r0 (M + j)) tt0 tt1 uu0 uu1 e
        have n1 := fun {u : Rat} => no1 (ig_at_mem l0 (st + s + k)) (j := M + j) (u := u)
        have n2 := fun {u : Rat} => no1 (ig_at_mem l0 (st + s + k + 1)) (j := M + j) (u := u)
        have n3 := fun {u : Rat} => no2 (ig_at_mem r0 (M + j)) (j := st + s + k) (u := u)
        have n4 := fun {u : Rat} => no2 (ig_at_mem r0 (M + j + 1)) (j := st + s + k) (u := u)
        have hcs := h6 (s + k) (by omega) (by omega)
        rw [← Nat.add_assoc] at hcs
        have nes := ig_ne (rgn_ne sL1 l0 (st + s + k))
        have hfin : ¬ (ig_at R (M + j) = ig_at L (st + s + k + 1) ∧ ig_at R (M + j + 1) = ig_at L (st + s + k)) := by
          rintro ⟨f1, f2⟩
          rw [mg_cs_any r0 f1 f2] at hcs
          cases hcs
        generalize ig_at L (st + s + k) = a at *
        generalize ig_at L (st + s + k + 1) = b at *
        generalize ig_at R (M + j) = p at *
        generalize ig_at R (M + j + 1) = q at *
        have m1 : (ig_c q).1 - (ig_c p).1 = -(m * ((ig_c b).1 - (ig_c a).1)) := m1
        have m2 : (ig_c q).2 - (ig_c p).2 = -(m * ((ig_c b).2 - (ig_c a).2)) := m2
        -- along a -> b: p at t + u m, q at t + u m - m
        have ep : ig_c p = gx_at (ig_c a) (ig_c b) (t + u * m) := by
          have e1 := congrArg Prod.fst e
          have e2 := congrArg Prod.snd e
          simp only [gx_at] at e1 e2
          apply Prod.ext
          · simp only [gx_at]; grind
          · simp only [gx_at]; grind
        have eq : ig_c q = gx_at (ig_c a) (ig_c b) (t + u * m - m) := by
          have e1 := congrArg Prod.fst e
          have e2 := congrArg Prod.snd e
          simp only [gx_at] at e1 e2
          apply Prod.ext
          · simp only [gx_at]; grind
          · simp only [gx_at]; grind
        have um : 0 < u * m := Rat.mul_pos uu0 m0
        have um2 : 0 < (1 - u) * m := Rat.mul_pos (by grind) m0
        have sub : ∀ x : Rat, gx_at (ig_c p) (ig_c q) x = gx_at (ig_c a) (ig_c b) (t + u * m - x * m) := by
          intro x
          rw [ep, eq]; simp only [gx_at]; apply Prod.ext
          · simp only []; grind
          · simp only []; grind
        have y1 : ¬ t + u * m < 1 := fun f => n3 (u := t + u * m) (by grind) f ep.symm
        have y2 : ¬ 0 < t + u * m - m := fun f => n4 (u := t + u * m - m) f (by grind) eq.symm
        have y3 : t + u * m = 1 := by
          refine Classical.byContradiction (fun f => ?_)
          refine n2 (u := (t + u * m - 1) / m) ?_ ?_ ?_
          · rw [Rat.lt_div_iff m0]; grind
          · rw [Rat.div_lt_iff m0]; grind
          · rw [sub, Rat.div_mul_cancel (by grind)]
            have : t + u * m - (t + u * m - 1) = 1 := by grind
            rw [this, gx_at1]
        have y4 : t + u * m - m = 0 := by
          refine Classical.byContradiction (fun f => ?_)
          refine n1 (u := (t + u * m) / m) ?_ ?_ ?_
          · rw [Rat.lt_div_iff m0]; grind
          · rw [Rat.div_lt_iff m0]; grind
          · rw [sub, Rat.div_mul_cancel (by grind)]
            have : t + u * m - (t + u * m) = 0 := by grind
            rw [this, gx_at0]
        rw [y3, gx_at1] at ep
        rw [y4, gx_at0] at eq
        exact hfin ⟨ig_c_inj.mp ep, ig_c_inj.mp eq⟩
  · have := gx_join_wn (sdi L (st + s) (L.length - s)) (sdi R M (R.length - s)) (sdi L st s) z
    rw [this, ← eL, ← eR, qL2, qR2, sL2, sR2]
end MG
