/-! deeds as steps of the register -/
section DST
variable {R : AR} {kd dy a b c p : Nat} {nm : List Nat} {body : List Int}
theorem dstp_ent : DStp R (rEnt R kd dy a b c p (R.1 7 0) (R.1 25 0) (R.1 30 0 + (wrec body).length) nm body) kd dy nm 0 0 0 0 0 0 body := by
  obtain ⟨q1, q2, q3, q4, q5, q6, q7, q8, q9⟩ := rEnt_d (R := R) (kd := kd) (dy := dy) (a := a) (b := b) (c := c) (p := p) (x := R.1 7 0) (y := R.1 25 0) (z := R.1 30 0 + (wrec body).length) (nm := nm) (body := body)
  refine ⟨⟨rEnt_15, rEnt_o (by omega), rEnt_o (by omega), rEnt_30, rEnt_o (by omega), rEnt_o (by omega), rEnt_o (by omega)⟩, fun d hd => ⟨fun f f1 f2 => rEnt_o (by omega), updN_n _ _ _ (by omega)⟩, ⟨q1, q2, q7, q8, q9, updN_s _ _ _⟩, fun l hl => ⟨rfl, ⟨rEnt_o (by omega), rEnt_o (by omega), rEnt_o (by omega)⟩, ?_, fun _ => rfl, fun _ _ => rfl⟩, fun l l1 l2 => by omega, fun e he => ⟨rEnt_o (by omega), rEnt_o (by omega), ?_⟩, fun f => absurd f (by decide), fun i => rfl⟩
  · rw [if_neg (fun f => f.1 rfl)]; exact rEnt_o (by omega)
  · rw [if_neg (fun f => f.1 rfl)]; exact rEnt_o (by omega)
theorem dstp_eas {o : Nat} : DStp R (rEas (rEnt R kd dy a b c p (R.1 7 0) (R.1 25 0 + 1) (R.1 30 0 + (wrec body).length) nm body) (R.1 15 0 + 1) o) kd dy nm 0 0 0 0 1 o body := by
  obtain ⟨q1, q2, q3, q4, q5, q6, q7, q8, q9⟩ := rEnt_d (R := R) (kd := kd) (dy := dy) (a := a) (b := b) (c := c) (p := p) (x := R.1 7 0) (y := R.1 25 0 + 1) (z := R.1 30 0 + (wrec body).length) (nm := nm) (body := body)
  have e25 : (rEnt R kd dy a b c p (R.1 7 0) (R.1 25 0 + 1) (R.1 30 0 + (wrec body).length) nm body).1 25 0 = R.1 25 0 := rEnt_o (by omega)
  have lo : ∀ f e, 26 ≤ f → f ≤ 28 → e ≤ R.1 25 0 → (rEas (rEnt R kd dy a b c p (R.1 7 0) (R.1 25 0 + 1) (R.1 30 0 + (wrec body).length) nm body) (R.1 15 0 + 1) o).1 f e = R.1 f e := by
    intro f e f1 f2 he
    rw [rEas_n, e25, if_neg (by omega), if_neg (by omega), if_neg (by omega), if_neg (by omega)]; exact rEnt_o (by omega)
  refine ⟨⟨by rw [rEas_o _ _ _ _ (by omega)]; exact rEnt_15, by rw [rEas_o _ _ _ _ (by omega)]; exact rEnt_o (by omega), by rw [rEas_25, e25], by rw [rEas_o _ _ _ _ (by omega)]; exact rEnt_30, by rw [rEas_o _ _ _ _ (by omega)]; exact rEnt_o (by omega), by rw [rEas_o _ _ _ _ (by omega)]; exact rEnt_o (by omega), by rw [rEas_o _ _ _ _ (by omega)]; exact rEnt_o (by omega)⟩, fun d hd => ⟨fun f f1 f2 => by rw [rEas_o _ _ _ _ (by omega)]; exact rEnt_o (by omega), updN_n _ _ _ (by omega)⟩, ⟨by rw [rEas_o _ _ _ _ (by omega)]; exact q1, by rw [rEas_o _ _ _ _ (by omega)]; exact q2, by rw [rEas_o _ _ _ _ (by omega)]; exact q7, by rw [rEas_o _ _ _ _ (by omega)]; exact q8, by rw [rEas_o _ _ _ _ (by omega)]; exact q9, updN_s _ _ _⟩, fun l hl => ⟨rfl, ⟨by rw [rEas_o _ _ _ _ (by omega)]; exact rEnt_o (by omega), by rw [rEas_o _ _ _ _ (by omega)]; exact rEnt_o (by omega), by rw [rEas_o _ _ _ _ (by omega)]; exact rEnt_o (by omega)⟩, ?_, fun _ => rfl, fun e he => ?_⟩, fun l l1 l2 => by omega, fun e he => ⟨lo 26 e (by omega) (by omega) he, lo 28 e (by omega) (by omega) he, ?_⟩, fun _ => ⟨?_, ?_, ?_, fun l hl => ?_⟩, fun i => rfl⟩
  · rw [if_neg (fun f => f.1 rfl), rEas_o _ _ _ _ (by omega)]; exact rEnt_o (by omega)
  · show (if e = (rEnt R kd dy a b c p (R.1 7 0) (R.1 25 0 + 1) (R.1 30 0 + (wrec body).length) nm body).1 25 0 + 1 then _ else aIh R e l) = aIh R e l
    rw [e25, if_neg (by omega)]
  · rw [if_neg (fun f => f.1 rfl)]; exact lo 27 e (by omega) (by omega) he
  · rw [rEas_n, e25]; simp
  · rw [rEas_n, e25]; simp
  · rw [rEas_n, e25]; simp
  · show (if R.1 25 0 + 1 = (rEnt R kd dy a b c p (R.1 7 0) (R.1 25 0 + 1) (R.1 30 0 + (wrec body).length) nm body).1 25 0 + 1 then decide (l = o) else _) = decide (l = o)
    rw [e25, if_pos rfl]
theorem dstp_rel {e : Nat} (h0 : e ≠ 0) : DStp R (rN (rEnt R kd dy a b c p (R.1 7 0) (R.1 25 0) (R.1 30 0 + (wrec body).length) nm body) [(27, e, R.1 15 0 + 1)]) kd dy nm 0 0 0 e 0 0 body := by
  obtain ⟨q1, q2, q3, q4, q5, q6, q7, q8, q9⟩ := rEnt_d (R := R) (kd := kd) (dy := dy) (a := a) (b := b) (c := c) (p := p) (x := R.1 7 0) (y := R.1 25 0) (z := R.1 30 0 + (wrec body).length) (nm := nm) (body := body)
  refine ⟨⟨by rw [rN_o (by omega)]; exact rEnt_15, by rw [rN_o (by omega)]; exact rEnt_o (by omega), by rw [rN_o (by omega)]; exact rEnt_o (by omega), by rw [rN_o (by omega)]; exact rEnt_30, by rw [rN_o (by omega)]; exact rEnt_o (by omega), by rw [rN_o (by omega)]; exact rEnt_o (by omega), by rw [rN_o (by omega)]; exact rEnt_o (by omega)⟩, fun d hd => ⟨fun f f1 f2 => by rw [rN_o (by omega)]; exact rEnt_o (by omega), updN_n _ _ _ (by omega)⟩, ⟨by rw [rN_o (by omega)]; exact q1, by rw [rN_o (by omega)]; exact q2, by rw [rN_o (by omega)]; exact q7, by rw [rN_o (by omega)]; exact q8, by rw [rN_o (by omega)]; exact q9, updN_s _ _ _⟩, fun l hl => ⟨rfl, ⟨by rw [rN_o (by omega)]; exact rEnt_o (by omega), by rw [rN_o (by omega)]; exact rEnt_o (by omega), by rw [rN_o (by omega)]; exact rEnt_o (by omega)⟩, ?_, fun _ => rfl, fun _ _ => rfl⟩, fun l l1 l2 => by omega, fun e' he => ⟨by rw [rN_o (by omega)]; exact rEnt_o (by omega), by rw [rN_o (by omega)]; exact rEnt_o (by omega), ?_⟩, fun f => absurd f (by decide), fun i => rfl⟩
  · rw [if_neg (fun f => f.1 rfl), rN_o (by omega)]; exact rEnt_o (by omega)
  · rw [rN1]
    by_cases k : e' = e
    · rw [if_pos ⟨rfl, k⟩, if_pos ⟨h0, k⟩]
    · rw [if_neg (fun f => k f.2), if_neg (fun f => k f.2)]; exact rEnt_o (by omega)
/-- the settled register -/
theorem set_ent {x y z : Nat} (f i : Nat) : (rSet (rEnt R kd dy a b c p x y z nm body)).1 f i = (rEnt R kd dy a b c p (R.1 7 0) (R.1 25 0) (R.1 30 0 + (wrec body).length) nm body).1 f i := by
  have e15 : (rEnt R kd dy a b c p x y z nm body).1 15 0 = R.1 15 0 + 1 := rEnt_15
  have e7 : (rEnt R kd dy a b c p x y z nm body).1 7 0 = R.1 7 0 := rEnt_o (by omega)
  have e25 : (rEnt R kd dy a b c p x y z nm body).1 25 0 = R.1 25 0 := rEnt_o (by omega)
  have e30 : (rEnt R kd dy a b c p x y z nm body).1 30 0 = R.1 30 0 + (wrec body).length := rEnt_30
  show (if f = 24 ∧ i = (rEnt R kd dy a b c p x y z nm body).1 15 0 then (rEnt R kd dy a b c p x y z nm body).1 30 0 else if f = 23 ∧ i = (rEnt R kd dy a b c p x y z nm body).1 15 0 then (rEnt R kd dy a b c p x y z nm body).1 25 0 else if f = 22 ∧ i = (rEnt R kd dy a b c p x y z nm body).1 15 0 then (rEnt R kd dy a b c p x y z nm body).1 7 0 else (rEnt R kd dy a b c p x y z nm body).1 f i) = _
  rw [e15, e7, e25, e30, rEnt_n, rEnt_n]
  by_cases k30 : f = 30 ∧ i = 0
  · rw [if_neg (by omega), if_neg (by omega), if_neg (by omega), if_pos k30, if_pos k30]
  · rw [if_neg k30, if_neg k30]
    by_cases k24 : f = 24 ∧ i = R.1 15 0 + 1
    · rw [if_pos k24, if_pos k24]
    · rw [if_neg k24, if_neg k24, if_neg k24]
      by_cases k23 : f = 23 ∧ i = R.1 15 0 + 1
      · rw [if_pos k23, if_pos k23]
      · rw [if_neg k23, if_neg k23, if_neg k23]
        by_cases k22 : f = 22 ∧ i = R.1 15 0 + 1
        · rw [if_pos k22, if_pos k22]
        · rw [if_neg k22, if_neg k22, if_neg k22]
/-- settling, in general -/
theorem rSet_n (R : AR) (f i : Nat) : (rSet R).1 f i = if f = 24 ∧ i = R.1 15 0 then R.1 30 0 else if f = 23 ∧ i = R.1 15 0 then R.1 25 0 else if f = 22 ∧ i = R.1 15 0 then R.1 7 0 else R.1 f i := rfl
theorem rEnt_xyz {x y z x' y' z' : Nat} {f i : Nat} (h : f < 22 ∨ 24 < f ∨ i ≠ R.1 15 0 + 1) : (rEnt R kd dy a b c p x y z nm body).1 f i = (rEnt R kd dy a b c p x' y' z' nm body).1 f i := by
  rw [rEnt_n, rEnt_n]
  by_cases k30 : f = 30 ∧ i = 0
  · rw [if_pos k30, if_pos k30]
  · have n24 : ¬ (f = 24 ∧ i = R.1 15 0 + 1) := by omega
    have n23 : ¬ (f = 23 ∧ i = R.1 15 0 + 1) := by omega
    have n22 : ¬ (f = 22 ∧ i = R.1 15 0 + 1) := by omega
    rw [if_neg k30, if_neg k30, if_neg n24, if_neg n23, if_neg n22, if_neg n24, if_neg n23, if_neg n22]
theorem dbody_ok {row : List PT} {en : Nat} (hk : 1 ≤ kd ∧ kd ≤ 5) (hd : dy ≤ 30000) (he : en ≤ 600) (ha : a ≤ 300) (hb : b ≤ 300) (hc : c ≤ 300) (hp : p ≤ 25401600) (hr : row.length ≤ 32 ∧ ∀ q ∈ row, ig_ok q) : ((2 ≤ (dbody kd dy en a b c p row).length ∧ (dbody kd dy en a b c p row).length ≤ 40) ∧ (∀ w ∈ dbody kd dy en a b c p row, 0 ≤ w ∧ w ≤ 700000000) ∧ (dbody kd dy en a b c p row).getD 0 0 % 65536 = (dbody kd dy en a b c p row).length) ∧ (wrec (dbody kd dy en a b c p row)).length = rsz kd row.length ∧ (dtext kd a b c p row).length + 4 = rsz kd row.length := by
  have hl := dtext_len kd a b c p row
  have e1 : (dbody kd dy en a b c p row).length = (dtext kd a b c p row).length + 2 := rfl
  have hl2 : (dtext kd a b c p row).length ≤ 34 := by rw [hl]; split <;> split <;> omega
  have e4 : (dtext kd a b c p row).length + 4 = rsz kd row.length := by
    rw [hl]; unfold rsz
    by_cases k1 : kd = 1
    · rw [if_pos k1, if_pos k1, if_neg (by omega)]; omega
    · rw [if_neg k1, if_neg k1]
      by_cases k3 : kd = 3
      · rw [if_pos k3, if_pos k3]
      · rw [if_neg k3, if_neg k3]
  refine ⟨⟨⟨by omega, by omega⟩, dbody_bd hk hd he ha hb hc hp hr, ?_⟩, by rw [wrec_len, e1]; omega, e4⟩
  show ((kd : Int) * 65536 + (((dtext kd a b c p row).length : Int) + 2)) % 65536 = ((dbody kd dy en a b c p row).length : Int)
  rw [e1]; omega
end DST
