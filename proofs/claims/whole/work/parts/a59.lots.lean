/-! deeds that end lots and begin others -/
section LTS
variable {R R' : AR} {kd dy a b c p x y z : Nat} {nm : List Nat} {body : List Int}
theorem WNl_ent (h : WNl R) (h300 : nm.length ≤ 300) (hm : ∀ x ∈ nm, 1 ≤ x ∧ x ≤ R.1 7 0) (h1 : kd = 1 ∨ kd = 3 → nm = [a]) (h2 : kd = 2 ∨ kd = 4 → nm = [a, b]) : WNl (rEnt R kd dy a b c p x y z nm body) := by
  intro d d1 d2
  rw [rEnt_15] at d2
  rw [rEnt_o (f := 7) (by omega)]
  by_cases k : d = R.1 15 0 + 1
  · obtain ⟨q1, q2, q3, q4, _⟩ := rEnt_d (R := R) (kd := kd) (dy := dy) (a := a) (b := b) (c := c) (p := p) (x := x) (y := y) (z := z) (nm := nm) (body := body)
    have e : aNm (rEnt R kd dy a b c p x y z nm body) d = nm := by rw [k]; exact updN_s _ _ _
    rw [e, k, q1, q3, q4]
    exact ⟨h300, hm, h1, h2⟩
  · have e : aNm (rEnt R kd dy a b c p x y z nm body) d = aNm R d := updN_n _ _ _ k
    rw [e, rEnt_o (f := 16) (by omega), rEnt_o (f := 18) (by omega), rEnt_o (f := 19) (by omega)]
    exact h d d1 (by omega)
theorem WT_ent (h : WT R) (h3 : kd ≠ 3) : WT (rEnt R kd dy a b c p x y z nm body) := by
  intro d d1 d2 q
  rw [rEnt_15] at d2
  by_cases k : d = R.1 15 0 + 1
  · rw [k, rEnt_d.1] at q; exact absurd q h3
  · rw [rEnt_o (by omega)] at q
    rw [rEnt_o (f := 19) (by omega), rEnt_o (f := 20) (by omega)]
    exact h d d1 (by omega) q
theorem aShare_ent {l q : Nat} {u e : Int} (he : e ≤ (R.1 15 0 : Int)) : aShare (rEnt R kd dy a b c p x y z nm body) l q u e = aShare R l q u e := by
  unfold aShare
  rw [rEnt_15]
  show aSh R l q + (oN (rEnt R kd dy a b c p x y z nm body) l q u e (R.1 15 0) + oT (rEnt R kd dy a b c p x y z nm body) l q u e (R.1 15 0 + 1)) = _
  rw [oT_not (fun f => by have := f.2.2.2; omega), oN_congr (R' := R) (l' := l) (y' := u) (e' := e) (fun d d1 d2 => ?_)]
  · omega
  · unfold oT aF
    rw [rEnt_o (f := 16) (by omega), rEnt_o (f := 17) (by omega), rEnt_o (f := 18) (by omega), rEnt_o (f := 19) (by omega), rEnt_o (f := 20) (by omega), rEnt_o (f := 21) (by omega)]
theorem aS_ent (w : WR R) {e : Nat} {u v : Int} (e1 : 1 ≤ e) (e2 : e ≤ R.1 25 0) : aS (rEnt R kd dy a b c p x y z nm body) e u v ↔ aS R e u v := by
  have we := w.2.2.2.2.1 e e1 e2
  unfold aS aF
  rw [rEnt_o (f := 26) (by omega), rEnt_o (f := 27) (by omega), rEnt_o (f := 17) (i := R.1 26 e) (by omega), rEnt_o (f := 17) (i := R.1 27 e) (by omega)]
section
variable {pa pb : Nat} {sh : Nat → Int} {ih : Nat → Bool}
theorem ends_n (v : Nat) (f i : Nat) : (rEnds v nm R).1 f i = if f = 12 ∧ i ∈ nm then v else R.1 f i := by
  by_cases k : f = 12 ∧ i ∈ nm
  · rw [if_pos k, k.1]; exact rEnds_s _ _ _ _ k.2
  · rw [if_neg k]
    refine rEnds_o _ _ _ _ _ ?_
    by_cases q : f = 12
    · exact Or.inr (fun r => k ⟨q, r⟩)
    · exact Or.inl q
theorem ends_7 (v : Nat) : (rEnds v nm R).1 7 0 = R.1 7 0 := by rw [ends_n, if_neg (by omega)]
/-- one lot more -/
theorem lot_n {K : List PT} (hx : R.1 7 0 = R'.1 7 0) (hn : ∀ f i, f < 22 → R.1 f i = R'.1 f i) {f i : Nat} (hf : f < 22) : (rLotB R kd pa pb K sh ih).1 f i = (rLotB R' kd pa pb K sh ih).1 f i := by
  rw [rLotB_n, rLotB_n, hx, hn f i hf]
theorem ends_cg (v : Nat) (hn : ∀ f i, f < 22 → R.1 f i = R'.1 f i) {f i : Nat} (hf : f < 22) : (rEnds v nm R).1 f i = (rEnds v nm R').1 f i := by
  rw [ends_n, ends_n, hn f i hf]
/-- one new lot: the step -/
theorem dstp_lot1 {K : List PT} (hK : rg_ok K) (hnm : ∀ x ∈ nm, x ≤ R.1 7 0) (hsh : ∀ q, q < 100 → sh q = aShare R pa q dy (R.1 15 0)) (hih : ∀ e, 1 ≤ e → e ≤ R.1 25 0 → (ih e = true ↔ ∃ x, x ∈ nm ∧ aS R e dy (R.1 15 0) ∧ aIh R e x = true)) : DStp R (rLots (R.1 15 0 + 1) pa pb sh ih [K] (rEnds (R.1 15 0 + 1) nm (rEnt R kd dy a b c p (R.1 7 0 + 1) (R.1 25 0) (R.1 30 0 + (wrec body).length) nm body))) kd dy nm 1 pa pb 0 0 0 body := by
  obtain ⟨q1, q2, q3, q4, q5, q6, q7, q8, q9⟩ := rEnt_d (R := R) (kd := kd) (dy := dy) (a := a) (b := b) (c := c) (p := p) (x := R.1 7 0 + 1) (y := R.1 25 0) (z := R.1 30 0 + (wrec body).length) (nm := nm) (body := body)
  show DStp R (rLotB (rEnds (R.1 15 0 + 1) nm (rEnt R kd dy a b c p (R.1 7 0 + 1) (R.1 25 0) (R.1 30 0 + (wrec body).length) nm body)) (R.1 15 0 + 1) pa pb K sh ih) kd dy nm 1 pa pb 0 0 0 body
  generalize hE : rEnt R kd dy a b c p (R.1 7 0 + 1) (R.1 25 0) (R.1 30 0 + (wrec body).length) nm body = E at q1 q2 q3 q4 q5 q6 q7 q8 q9 ⊢
  have E7 : (rEnds (R.1 15 0 + 1) nm E).1 7 0 = R.1 7 0 := by rw [ends_7, ← hE]; exact rEnt_o (by omega)
  have Er : (rEnds (R.1 15 0 + 1) nm E).2 = E.2 := rEnds_r _ _ _
  have hi : ∀ f i, (f < 11 ∨ 14 < f) → f ≠ 7 → (rLotB (rEnds (R.1 15 0 + 1) nm E) (R.1 15 0 + 1) pa pb K sh ih).1 f i = E.1 f i := by
    intro f i h1 h2
    rw [rLotB_o _ _ _ _ _ _ _ _ ⟨h2, h1⟩, ends_n, if_neg (by omega)]
  have lo : ∀ f l, 11 ≤ f → f ≤ 14 → l ≠ R.1 7 0 + 1 → (rLotB (rEnds (R.1 15 0 + 1) nm E) (R.1 15 0 + 1) pa pb K sh ih).1 f l = (rEnds (R.1 15 0 + 1) nm E).1 f l := by
    intro f l h1 h2 h3
    rw [rLotB_n, E7, if_neg (fun q => h3 q.2), if_neg (fun q => h3 q.2), if_neg (fun q => h3 q.2), if_neg (fun q => h3 q.2), if_neg (by omega)]
  have lo2 : ∀ f l, 11 ≤ f → f ≤ 14 → f ≠ 12 → l ≠ R.1 7 0 + 1 → (rLotB (rEnds (R.1 15 0 + 1) nm E) (R.1 15 0 + 1) pa pb K sh ih).1 f l = R.1 f l := by
    intro f l h1 h2 h4 h3
    rw [lo f l h1 h2 h3, ends_n, if_neg (by omega), ← hE]; exact rEnt_o (by omega)
  have rg : ∀ l, aRing (rLotB (rEnds (R.1 15 0 + 1) nm E) (R.1 15 0 + 1) pa pb K sh ih) l = if l = R.1 7 0 + 1 then K else aRing R l := by
    intro l
    show (if l = (rEnds (R.1 15 0 + 1) nm E).1 7 0 + 1 then K else aRing (rEnds (R.1 15 0 + 1) nm E) l) = _
    rw [E7]
    show (if l = R.1 7 0 + 1 then K else (rEnds (R.1 15 0 + 1) nm E).2.1 l) = _
    rw [Er, ← hE]; rfl
  have shh : ∀ l q, aSh (rLotB (rEnds (R.1 15 0 + 1) nm E) (R.1 15 0 + 1) pa pb K sh ih) l q = if l = R.1 7 0 + 1 then sh q else aSh R l q := by
    intro l q
    show updN ((rEnds (R.1 15 0 + 1) nm E).2.2.2.1) ((rEnds (R.1 15 0 + 1) nm E).1 7 0 + 1) sh l q = _
    rw [E7, Er, ← hE]
    unfold updN
    split <;> rfl
  have ihh : ∀ e l, aIh (rLotB (rEnds (R.1 15 0 + 1) nm E) (R.1 15 0 + 1) pa pb K sh ih) e l = if l = R.1 7 0 + 1 then ih e else aIh R e l := by
    intro e l
    show (if l = (rEnds (R.1 15 0 + 1) nm E).1 7 0 + 1 then ih e else (rEnds (R.1 15 0 + 1) nm E).2.2.2.2.1 e l) = _
    rw [E7, Er, ← hE]; rfl
  have nmm : ∀ d, aNm (rLotB (rEnds (R.1 15 0 + 1) nm E) (R.1 15 0 + 1) pa pb K sh ih) d = updN (aNm R) (R.1 15 0 + 1) nm d := by
    intro d
    show (rEnds (R.1 15 0 + 1) nm E).2.2.1 d = _
    rw [Er, ← hE]; rfl
  have lgg : ∀ i, aLg (rLotB (rEnds (R.1 15 0 + 1) nm E) (R.1 15 0 + 1) pa pb K sh ih) i = lgapp (aLg R) (R.1 30 0) (wrec body) i := by
    intro i
    show (rEnds (R.1 15 0 + 1) nm E).2.2.2.2.2.1 i = _
    rw [Er, ← hE]; rfl
  have eo : ∀ {f i : Nat}, (f < 15 ∨ 30 < f ∨ (24 < f ∧ f < 30) ∨ (16 ≤ f ∧ f ≤ 24 ∧ i ≠ R.1 15 0 + 1)) → E.1 f i = R.1 f i := fun h => by rw [← hE]; exact rEnt_o h
  refine ⟨⟨by rw [hi 15 0 (by omega) (by omega), ← hE]; exact rEnt_15, by rw [rLotB_7, E7], by rw [hi 25 0 (by omega) (by omega)]; exact eo (by omega), by rw [hi 30 0 (by omega) (by omega), ← hE]; exact rEnt_30, by rw [hi 31 0 (by omega) (by omega)]; exact eo (by omega), by rw [hi 2 0 (by omega) (by omega)]; exact eo (by omega), by rw [hi 3 0 (by omega) (by omega)]; exact eo (by omega)⟩, fun d hd => ⟨fun f f1 f2 => by rw [hi f d (by omega) (by omega)]; exact eo (by omega), by rw [nmm]; exact updN_n _ _ _ (by omega)⟩, ⟨by rw [hi 16 _ (by omega) (by omega)]; exact q1, by rw [hi 17 _ (by omega) (by omega)]; exact q2, by rw [hi 22 _ (by omega) (by omega)]; exact q7, by rw [hi 23 _ (by omega) (by omega)]; exact q8, by rw [hi 24 _ (by omega) (by omega)]; exact q9, by rw [nmm]; exact updN_s _ _ _⟩, fun l hl => ⟨by rw [rg, if_neg (by omega)], ⟨lo2 11 l (by omega) (by omega) (by omega) (by omega), lo2 13 l (by omega) (by omega) (by omega) (by omega), lo2 14 l (by omega) (by omega) (by omega) (by omega)⟩, ?_, fun q => by rw [shh, if_neg (by omega)], fun e he => by rw [ihh, if_neg (by omega)]⟩, fun l l1 l2 => ?_, fun e he => ⟨by rw [hi 26 e (by omega) (by omega)]; exact eo (by omega), by rw [hi 28 e (by omega) (by omega)]; exact eo (by omega), by rw [hi 27 e (by omega) (by omega), if_neg (fun q => q.1 rfl)]; exact eo (by omega)⟩, fun q => absurd q (by decide), lgg⟩
  · rw [lo 12 l (by omega) (by omega) (by omega), ends_n]
    by_cases k : l ∈ nm
    · rw [if_pos ⟨rfl, k⟩, if_pos ⟨by omega, k⟩]
    · rw [if_neg (fun q => k q.2), if_neg (fun q => k q.2)]; exact eo (by omega)
  · have el : l = R.1 7 0 + 1 := by omega
    subst el
    refine ⟨⟨?_, ?_, ?_, ?_⟩, by rw [rg, if_pos rfl]; exact hK, fun q hq => by rw [shh, if_pos rfl]; exact hsh q hq, fun e e1 e2 => by rw [ihh, if_pos rfl]; exact hih e e1 e2⟩
    · rw [rLotB_n, E7]; simp
    · rw [rLotB_n, E7]; simp
    · rw [rLotB_n, E7]; simp
    · rw [rLotB_n, E7]; simp
/-- two new lots: the step -/
theorem dstp_lot2 {K K2 : List PT} (hK : rg_ok K) (hK2 : rg_ok K2) (hnm : ∀ x ∈ nm, x ≤ R.1 7 0) (hsh : ∀ q, q < 100 → sh q = aShare R pa q dy (R.1 15 0)) (hih : ∀ e, 1 ≤ e → e ≤ R.1 25 0 → (ih e = true ↔ ∃ x, x ∈ nm ∧ aS R e dy (R.1 15 0) ∧ aIh R e x = true)) : DStp R (rLots (R.1 15 0 + 1) pa pb sh ih [K, K2] (rEnds (R.1 15 0 + 1) nm (rEnt R kd dy a b c p (R.1 7 0 + 2) (R.1 25 0) (R.1 30 0 + (wrec body).length) nm body))) kd dy nm 2 pa pb 0 0 0 body := by
  obtain ⟨q1, q2, q3, q4, q5, q6, q7, q8, q9⟩ := rEnt_d (R := R) (kd := kd) (dy := dy) (a := a) (b := b) (c := c) (p := p) (x := R.1 7 0 + 2) (y := R.1 25 0) (z := R.1 30 0 + (wrec body).length) (nm := nm) (body := body)
  show DStp R (rLotB (rLotB (rEnds (R.1 15 0 + 1) nm (rEnt R kd dy a b c p (R.1 7 0 + 2) (R.1 25 0) (R.1 30 0 + (wrec body).length) nm body)) (R.1 15 0 + 1) pa pb K sh ih) (R.1 15 0 + 1) pa pb K2 sh ih) kd dy nm 2 pa pb 0 0 0 body
  generalize hE : rEnt R kd dy a b c p (R.1 7 0 + 2) (R.1 25 0) (R.1 30 0 + (wrec body).length) nm body = E at q1 q2 q3 q4 q5 q6 q7 q8 q9 ⊢
  have E7 : (rEnds (R.1 15 0 + 1) nm E).1 7 0 = R.1 7 0 := by rw [ends_7, ← hE]; exact rEnt_o (by omega)
  have Er : (rEnds (R.1 15 0 + 1) nm E).2 = E.2 := rEnds_r _ _ _
  have F7 : (rLotB (rEnds (R.1 15 0 + 1) nm E) (R.1 15 0 + 1) pa pb K sh ih).1 7 0 = R.1 7 0 + 1 := by rw [rLotB_7, E7]
  have hi : ∀ f i, (f < 11 ∨ 14 < f) → f ≠ 7 → (rLotB (rLotB (rEnds (R.1 15 0 + 1) nm E) (R.1 15 0 + 1) pa pb K sh ih) (R.1 15 0 + 1) pa pb K2 sh ih).1 f i = E.1 f i := by
    intro f i h1 h2
    rw [rLotB_o _ _ _ _ _ _ _ _ ⟨h2, h1⟩, rLotB_o _ _ _ _ _ _ _ _ ⟨h2, h1⟩, ends_n, if_neg (by omega)]
  have lo : ∀ f l, 11 ≤ f → f ≤ 14 → l ≠ R.1 7 0 + 1 → l ≠ R.1 7 0 + 2 → (rLotB (rLotB (rEnds (R.1 15 0 + 1) nm E) (R.1 15 0 + 1) pa pb K sh ih) (R.1 15 0 + 1) pa pb K2 sh ih).1 f l = (rEnds (R.1 15 0 + 1) nm E).1 f l := by
    intro f l h1 h2 h3 h4
    rw [rLotB_n, F7, if_neg (fun q => h4 q.2), if_neg (fun q => h4 q.2), if_neg (fun q => h4 q.2), if_neg (fun q => h4 q.2), if_neg (by omega), rLotB_n, E7, if_neg (fun q => h3 q.2), if_neg (fun q => h3 q.2), if_neg (fun q => h3 q.2), if_neg (fun q => h3 q.2), if_neg (by omega)]
  have lo2 : ∀ f l, 11 ≤ f → f ≤ 14 → f ≠ 12 → l ≠ R.1 7 0 + 1 → l ≠ R.1 7 0 + 2 → (rLotB (rLotB (rEnds (R.1 15 0 + 1) nm E) (R.1 15 0 + 1) pa pb K sh ih) (R.1 15 0 + 1) pa pb K2 sh ih).1 f l = R.1 f l := by
    intro f l h1 h2 h4 h3 h5
    rw [lo f l h1 h2 h3 h5, ends_n, if_neg (by omega), ← hE]; exact rEnt_o (by omega)
  have rg : ∀ l, aRing (rLotB (rLotB (rEnds (R.1 15 0 + 1) nm E) (R.1 15 0 + 1) pa pb K sh ih) (R.1 15 0 + 1) pa pb K2 sh ih) l = if l = R.1 7 0 + 2 then K2 else if l = R.1 7 0 + 1 then K else aRing R l := by
    intro l
    show (if l = (rLotB (rEnds (R.1 15 0 + 1) nm E) (R.1 15 0 + 1) pa pb K sh ih).1 7 0 + 1 then K2 else if l = (rEnds (R.1 15 0 + 1) nm E).1 7 0 + 1 then K else (rEnds (R.1 15 0 + 1) nm E).2.1 l) = _
    rw [F7, E7, Er, ← hE]; rfl
  have shh : ∀ l q, aSh (rLotB (rLotB (rEnds (R.1 15 0 + 1) nm E) (R.1 15 0 + 1) pa pb K sh ih) (R.1 15 0 + 1) pa pb K2 sh ih) l q = if l = R.1 7 0 + 2 ∨ l = R.1 7 0 + 1 then sh q else aSh R l q := by
    intro l q
    show updN (updN ((rEnds (R.1 15 0 + 1) nm E).2.2.2.1) ((rEnds (R.1 15 0 + 1) nm E).1 7 0 + 1) sh) ((rLotB (rEnds (R.1 15 0 + 1) nm E) (R.1 15 0 + 1) pa pb K sh ih).1 7 0 + 1) sh l q = _
    rw [F7, E7, Er, ← hE]
    unfold updN
    by_cases k1 : l = R.1 7 0 + 2
    · rw [if_pos k1, if_pos (Or.inl k1)]
    · rw [if_neg k1]
      by_cases k2 : l = R.1 7 0 + 1
      · rw [if_pos k2, if_pos (Or.inr k2)]
      · rw [if_neg k2, if_neg (fun q => q.elim k1 k2)]; rfl
  have ihh : ∀ e l, aIh (rLotB (rLotB (rEnds (R.1 15 0 + 1) nm E) (R.1 15 0 + 1) pa pb K sh ih) (R.1 15 0 + 1) pa pb K2 sh ih) e l = if l = R.1 7 0 + 2 ∨ l = R.1 7 0 + 1 then ih e else aIh R e l := by
    intro e l
    show (if l = (rLotB (rEnds (R.1 15 0 + 1) nm E) (R.1 15 0 + 1) pa pb K sh ih).1 7 0 + 1 then ih e else if l = (rEnds (R.1 15 0 + 1) nm E).1 7 0 + 1 then ih e else (rEnds (R.1 15 0 + 1) nm E).2.2.2.2.1 e l) = _
    rw [F7, E7, Er, ← hE]
    by_cases k1 : l = R.1 7 0 + 2
    · rw [if_pos k1, if_pos (Or.inl k1)]
    · rw [if_neg k1]
      by_cases k2 : l = R.1 7 0 + 1
      · rw [if_pos k2, if_pos (Or.inr k2)]
      · rw [if_neg k2, if_neg (fun q => q.elim k1 k2)]; rfl
  have nmm : ∀ d, aNm (rLotB (rLotB (rEnds (R.1 15 0 + 1) nm E) (R.1 15 0 + 1) pa pb K sh ih) (R.1 15 0 + 1) pa pb K2 sh ih) d = updN (aNm R) (R.1 15 0 + 1) nm d := by
    intro d
    show (rEnds (R.1 15 0 + 1) nm E).2.2.1 d = _
    rw [Er, ← hE]; rfl
  have lgg : ∀ i, aLg (rLotB (rLotB (rEnds (R.1 15 0 + 1) nm E) (R.1 15 0 + 1) pa pb K sh ih) (R.1 15 0 + 1) pa pb K2 sh ih) i = lgapp (aLg R) (R.1 30 0) (wrec body) i := by
    intro i
    show (rEnds (R.1 15 0 + 1) nm E).2.2.2.2.2.1 i = _
    rw [Er, ← hE]; rfl
  have eo : ∀ {f i : Nat}, (f < 15 ∨ 30 < f ∨ (24 < f ∧ f < 30) ∨ (16 ≤ f ∧ f ≤ 24 ∧ i ≠ R.1 15 0 + 1)) → E.1 f i = R.1 f i := fun h => by rw [← hE]; exact rEnt_o h
  refine ⟨⟨by rw [hi 15 0 (by omega) (by omega), ← hE]; exact rEnt_15, by rw [rLotB_7, F7], by rw [hi 25 0 (by omega) (by omega)]; exact eo (by omega), by rw [hi 30 0 (by omega) (by omega), ← hE]; exact rEnt_30, by rw [hi 31 0 (by omega) (by omega)]; exact eo (by omega), by rw [hi 2 0 (by omega) (by omega)]; exact eo (by omega), by rw [hi 3 0 (by omega) (by omega)]; exact eo (by omega)⟩, fun d hd => ⟨fun f f1 f2 => by rw [hi f d (by omega) (by omega)]; exact eo (by omega), by rw [nmm]; exact updN_n _ _ _ (by omega)⟩, ⟨by rw [hi 16 _ (by omega) (by omega)]; exact q1, by rw [hi 17 _ (by omega) (by omega)]; exact q2, by rw [hi 22 _ (by omega) (by omega)]; exact q7, by rw [hi 23 _ (by omega) (by omega)]; exact q8, by rw [hi 24 _ (by omega) (by omega)]; exact q9, by rw [nmm]; exact updN_s _ _ _⟩, fun l hl => ⟨by rw [rg, if_neg (by omega), if_neg (by omega)], ⟨lo2 11 l (by omega) (by omega) (by omega) (by omega) (by omega), lo2 13 l (by omega) (by omega) (by omega) (by omega) (by omega), lo2 14 l (by omega) (by omega) (by omega) (by omega) (by omega)⟩, ?_, fun q => by rw [shh, if_neg (by omega)], fun e he => by rw [ihh, if_neg (by omega)]⟩, fun l l1 l2 => ?_, fun e he => ⟨by rw [hi 26 e (by omega) (by omega)]; exact eo (by omega), by rw [hi 28 e (by omega) (by omega)]; exact eo (by omega), by rw [hi 27 e (by omega) (by omega), if_neg (fun q => q.1 rfl)]; exact eo (by omega)⟩, fun q => absurd q (by decide), lgg⟩
  · rw [lo 12 l (by omega) (by omega) (by omega) (by omega), ends_n]
    by_cases k : l ∈ nm
    · rw [if_pos ⟨rfl, k⟩, if_pos ⟨by omega, k⟩]
    · rw [if_neg (fun q => k q.2), if_neg (fun q => k q.2)]; exact eo (by omega)
  · rcases (show l = R.1 7 0 + 1 ∨ l = R.1 7 0 + 2 by omega) with el | el
    · subst el
      have lw : ∀ f, (rLotB (rLotB (rEnds (R.1 15 0 + 1) nm E) (R.1 15 0 + 1) pa pb K sh ih) (R.1 15 0 + 1) pa pb K2 sh ih).1 f (R.1 7 0 + 1) = (rLotB (rEnds (R.1 15 0 + 1) nm E) (R.1 15 0 + 1) pa pb K sh ih).1 f (R.1 7 0 + 1) := by
        intro f
        rw [rLotB_n, F7, if_neg (by omega), if_neg (by omega), if_neg (by omega), if_neg (by omega), if_neg (by omega)]
      refine ⟨⟨?_, ?_, ?_, ?_⟩, by rw [rg, if_neg (by omega), if_pos rfl]; exact hK, fun q hq => by rw [shh, if_pos (Or.inr rfl)]; exact hsh q hq, fun e e1 e2 => by rw [ihh, if_pos (Or.inr rfl)]; exact hih e e1 e2⟩
      · rw [lw, rLotB_n, E7]; simp
      · rw [lw, rLotB_n, E7]; simp
      · rw [lw, rLotB_n, E7]; simp
      · rw [lw, rLotB_n, E7]; simp
    · subst el
      refine ⟨⟨?_, ?_, ?_, ?_⟩, by rw [rg, if_pos rfl]; exact hK2, fun q hq => by rw [shh, if_pos (Or.inl rfl)]; exact hsh q hq, fun e e1 e2 => by rw [ihh, if_pos (Or.inl rfl)]; exact hih e e1 e2⟩
      · rw [rLotB_n, F7]; simp
      · rw [rLotB_n, F7]; simp
      · rw [rLotB_n, F7]; simp
      · rw [rLotB_n, F7]; simp
theorem set_lot1 {K : List PT} (f i : Nat) : (rLots (R.1 15 0 + 1) pa pb sh ih [K] (rEnds (R.1 15 0 + 1) nm (rEnt R kd dy a b c p (R.1 7 0 + 1) (R.1 25 0) (R.1 30 0 + (wrec body).length) nm body))).1 f i = (rSet (rLots (R.1 15 0 + 1) pa pb sh ih [K] (rEnds (R.1 15 0 + 1) nm (rEnt R kd dy a b c p x y z nm body)))).1 f i := by
  show (rLotB (rEnds (R.1 15 0 + 1) nm (rEnt R kd dy a b c p (R.1 7 0 + 1) (R.1 25 0) (R.1 30 0 + (wrec body).length) nm body)) (R.1 15 0 + 1) pa pb K sh ih).1 f i = (rSet (rLotB (rEnds (R.1 15 0 + 1) nm (rEnt R kd dy a b c p x y z nm body)) (R.1 15 0 + 1) pa pb K sh ih)).1 f i
  obtain ⟨_, _, _, _, _, _, q7, q8, q9⟩ := rEnt_d (R := R) (kd := kd) (dy := dy) (a := a) (b := b) (c := c) (p := p) (x := R.1 7 0 + 1) (y := R.1 25 0) (z := R.1 30 0 + (wrec body).length) (nm := nm) (body := body)
  have hi : ∀ x y z f i, (f < 11 ∨ 14 < f) → f ≠ 7 → (rLotB (rEnds (R.1 15 0 + 1) nm (rEnt R kd dy a b c p x y z nm body)) (R.1 15 0 + 1) pa pb K sh ih).1 f i = (rEnt R kd dy a b c p x y z nm body).1 f i := by
    intro x y z f i h1 h2
    rw [rLotB_o _ _ _ _ _ _ _ _ ⟨h2, h1⟩, ends_n, if_neg (by omega)]
  rw [rSet_n, rLotB_7, ends_7, hi x y z 15 0 (by omega) (by omega), hi x y z 25 0 (by omega) (by omega), hi x y z 30 0 (by omega) (by omega), rEnt_15, rEnt_30, rEnt_o (f := 25) (by omega), rEnt_o (f := 7) (by omega)]
  by_cases k24 : f = 24 ∧ i = R.1 15 0 + 1
  · rw [if_pos k24, k24.1, k24.2, hi _ _ _ _ _ (by omega) (by omega)]; exact q9
  · rw [if_neg k24]
    by_cases k23 : f = 23 ∧ i = R.1 15 0 + 1
    · rw [if_pos k23, k23.1, k23.2, hi _ _ _ _ _ (by omega) (by omega)]; exact q8
    · rw [if_neg k23]
      by_cases k22 : f = 22 ∧ i = R.1 15 0 + 1
      · rw [if_pos k22, k22.1, k22.2, hi _ _ _ _ _ (by omega) (by omega)]; exact q7
      · rw [if_neg k22]
        by_cases hf : f < 22
        · refine lot_n ?_ (fun f i hf => ends_cg _ (fun f i hf => rEnt_xyz (by omega)) hf) hf
          rw [ends_7, ends_7]; exact rEnt_xyz (by omega)
        · rw [hi _ _ _ _ _ (by omega) (by omega), hi _ _ _ _ _ (by omega) (by omega)]; exact rEnt_xyz (by omega)
theorem set_lot2 {K K2 : List PT} (f i : Nat) : (rLots (R.1 15 0 + 1) pa pb sh ih [K, K2] (rEnds (R.1 15 0 + 1) nm (rEnt R kd dy a b c p (R.1 7 0 + 2) (R.1 25 0) (R.1 30 0 + (wrec body).length) nm body))).1 f i = (rSet (rLots (R.1 15 0 + 1) pa pb sh ih [K, K2] (rEnds (R.1 15 0 + 1) nm (rEnt R kd dy a b c p x y z nm body)))).1 f i := by
  show (rLotB (rLotB (rEnds (R.1 15 0 + 1) nm (rEnt R kd dy a b c p (R.1 7 0 + 2) (R.1 25 0) (R.1 30 0 + (wrec body).length) nm body)) (R.1 15 0 + 1) pa pb K sh ih) (R.1 15 0 + 1) pa pb K2 sh ih).1 f i = (rSet (rLotB (rLotB (rEnds (R.1 15 0 + 1) nm (rEnt R kd dy a b c p x y z nm body)) (R.1 15 0 + 1) pa pb K sh ih) (R.1 15 0 + 1) pa pb K2 sh ih)).1 f i
  obtain ⟨_, _, _, _, _, _, q7, q8, q9⟩ := rEnt_d (R := R) (kd := kd) (dy := dy) (a := a) (b := b) (c := c) (p := p) (x := R.1 7 0 + 2) (y := R.1 25 0) (z := R.1 30 0 + (wrec body).length) (nm := nm) (body := body)
  have hi : ∀ x y z f i, (f < 11 ∨ 14 < f) → f ≠ 7 → (rLotB (rLotB (rEnds (R.1 15 0 + 1) nm (rEnt R kd dy a b c p x y z nm body)) (R.1 15 0 + 1) pa pb K sh ih) (R.1 15 0 + 1) pa pb K2 sh ih).1 f i = (rEnt R kd dy a b c p x y z nm body).1 f i := by
    intro x y z f i h1 h2
    rw [rLotB_o _ _ _ _ _ _ _ _ ⟨h2, h1⟩, rLotB_o _ _ _ _ _ _ _ _ ⟨h2, h1⟩, ends_n, if_neg (by omega)]
  rw [rSet_n, rLotB_7, rLotB_7, ends_7, hi x y z 15 0 (by omega) (by omega), hi x y z 25 0 (by omega) (by omega), hi x y z 30 0 (by omega) (by omega), rEnt_15, rEnt_30, rEnt_o (f := 25) (by omega), rEnt_o (f := 7) (by omega)]
  by_cases k24 : f = 24 ∧ i = R.1 15 0 + 1
  · rw [if_pos k24, k24.1, k24.2, hi _ _ _ _ _ (by omega) (by omega)]; exact q9
  · rw [if_neg k24]
    by_cases k23 : f = 23 ∧ i = R.1 15 0 + 1
    · rw [if_pos k23, k23.1, k23.2, hi _ _ _ _ _ (by omega) (by omega)]; exact q8
    · rw [if_neg k23]
      by_cases k22 : f = 22 ∧ i = R.1 15 0 + 1
      · rw [if_pos k22, k22.1, k22.2, hi _ _ _ _ _ (by omega) (by omega)]; exact q7
      · rw [if_neg k22]
        have n7 : (rEnds (R.1 15 0 + 1) nm (rEnt R kd dy a b c p (R.1 7 0 + 2) (R.1 25 0) (R.1 30 0 + (wrec body).length) nm body)).1 7 0 = (rEnds (R.1 15 0 + 1) nm (rEnt R kd dy a b c p x y z nm body)).1 7 0 := by rw [ends_7, ends_7]; exact rEnt_xyz (by omega)
        have n1 : ∀ f i, f < 22 → (rEnds (R.1 15 0 + 1) nm (rEnt R kd dy a b c p (R.1 7 0 + 2) (R.1 25 0) (R.1 30 0 + (wrec body).length) nm body)).1 f i = (rEnds (R.1 15 0 + 1) nm (rEnt R kd dy a b c p x y z nm body)).1 f i := fun f i hf => ends_cg _ (fun f i hf => rEnt_xyz (by omega)) hf
        by_cases hf : f < 22
        · refine lot_n ?_ (fun f i hf => lot_n n7 n1 hf) hf
          rw [rLotB_7, rLotB_7, n7]
        · rw [hi _ _ _ _ _ (by omega) (by omega), hi _ _ _ _ _ (by omega) (by omega)]; exact rEnt_xyz (by omega)
end
/-- a simple ring that winds no other way -/
theorem area_pos_of {l : List PT} (h1 : ∀ p ∈ l, ig_ok p) (h3 : gx_simple (rgn l)) (h4 : ∀ z, 0 ≤ gx_wn (rgn l) z) (h0 : l ≠ []) : 0 < ig_area l := by
  rcases rgn_sense h1 h3 h0 with q | q
  · exact q.1
  · exfalso
    have s := rgn_len l
    have n0 : rgn l ≠ [] := by
      intro k
      rw [k] at s
      exact h0 (List.length_eq_zero_iff.mp s.symm)
    have r := gx_ccw h3 n0 h4
    have := gx_area_pos h3 n0 r (rgn_nat h1)
    rw [ig_area_c] at this
    have := Rat.intCast_pos.mp this
    omega
/-- what is kept of such a ring is a lot's ring -/
theorem kept_rg {l K : List PT} (h1 : ∀ p ∈ l, ig_ok p) (h3 : gx_simple (rgn l)) (h4 : ∀ z, 0 ≤ gx_wn (rgn l) z) (h0 : l ≠ []) (hk : ig_kept l K) (h60 : K.length ≤ 60) : rg_ok K ∧ ∀ z, gx_wn (rgn K) z = gx_wn (rgn l) z := by
  obtain ⟨g1, g2, g3, g4⟩ := ig_kept_good h1 h3 h0 hk
  exact ⟨⟨fun p hp => h1 p (ig_kept_mem hk hp), ⟨g4, h60⟩, g1, g2⟩, g3 (area_pos_of h1 h3 h4 h0)⟩
end LTS
