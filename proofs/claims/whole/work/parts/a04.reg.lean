/-! THE REGISTER: R.1 the numbers by the reference's fields; rings; names of deeds; shares at birth; who inherits; the log; the row. -/
theorem inR_lit0 : inR 0 := ⟨by decide, by decide⟩
theorem inR_lit1 : inR 1 := ⟨by decide, by decide⟩
theorem inR_lit2 : inR 2 := ⟨by decide, by decide⟩
theorem inR_lit3 : inR 3 := ⟨by decide, by decide⟩
theorem b01_0 : b01 0 := Or.inl rfl
theorem b01_1 : b01 1 := Or.inr rfl
abbrev AR : Type := (Nat → Nat → Nat) × (Nat → List PT) × (Nat → List Nat) × (Nat → Nat → Int) × (Nat → Nat → Bool) × (Nat → Int) × List PT
abbrev aN (R : AR) : Nat → Nat → Nat := R.1
abbrev aRing (R : AR) : Nat → List PT := R.2.1
abbrev aNm (R : AR) : Nat → List Nat := R.2.2.1
abbrev aSh (R : AR) : Nat → Nat → Int := R.2.2.2.1
abbrev aIh (R : AR) : Nat → Nat → Bool := R.2.2.2.2.1
abbrev aLg (R : AR) : Nat → Int := R.2.2.2.2.2.1
abbrev aRow (R : AR) : List PT := R.2.2.2.2.2.2
def marr (S : MS) (nf fx fy cap : Nat) (l : List PT) : Prop := S.1 nf = l.length ∧ l.length ≤ cap ∧ ∀ k, k < l.length → S.2 fx k = (ig_at l k).1 ∧ S.2 fy k = (ig_at l k).2
def MD (S : MS) (R : AR) : Prop :=
  (S.1 1 = (if R.1 7 0 = 0 then 0 else 1) ∧ ∀ f, f = 2 ∨ f = 3 ∨ f = 7 ∨ f = 15 ∨ f = 25 ∨ f = 30 ∨ f = 31 → S.1 f = (R.1 f 0 : Int)) ∧
  marr S 4 5 6 32 (aRow R) ∧
  (∀ l, 1 ≤ l → l ≤ R.1 7 0 → S.2 10 l = (aRing R l).length ∧ (∀ k, k < (aRing R l).length → S.2 8 (60 * l + k) = (ig_at (aRing R l) k).1 ∧ S.2 9 (60 * l + k) = (ig_at (aRing R l) k).2) ∧ ∀ f, 11 ≤ f → f ≤ 14 → S.2 f l = (R.1 f l : Int)) ∧
  (∀ d, 1 ≤ d → d ≤ R.1 15 0 → ∀ f, 16 ≤ f → f ≤ 24 → S.2 f d = (R.1 f d : Int)) ∧
  (∀ e, 1 ≤ e → e ≤ R.1 25 0 → ∀ f, 26 ≤ f → f ≤ 28 → S.2 f e = (R.1 f e : Int)) ∧
  ∀ i, i < R.1 30 0 → S.2 32 i = aLg R i
/-- a ring of the register -/
def rg_ok (l : List PT) : Prop := (∀ p ∈ l, ig_ok p) ∧ (3 ≤ l.length ∧ l.length ≤ 60) ∧ gx_simple (rgn l) ∧ ∀ z, 0 ≤ gx_wn (rgn l) z
theorem rg_ok.ne {l : List PT} (h : rg_ok l) : l ≠ [] := by intro f; have := h.2.1.1; rw [f] at this; simp at this
/-- ranges -/
def WR (R : AR) : Prop :=
  (R.1 7 0 ≤ 300 ∧ R.1 15 0 ≤ 600 ∧ R.1 25 0 ≤ 200 ∧ R.1 30 0 ≤ 12000 ∧ R.1 31 0 ≤ R.1 30 0 ∧ R.1 2 0 ≤ 1 ∧ R.1 3 0 ≤ 40) ∧
  ((aRow R).length ≤ 32 ∧ ∀ p ∈ aRow R, ig_ok p) ∧
  (∀ l, 1 ≤ l → l ≤ R.1 7 0 → rg_ok (aRing R l) ∧ R.1 11 l ≤ R.1 15 0 ∧ R.1 12 l ≤ R.1 15 0 ∧ R.1 13 l < l ∧ R.1 14 l < l ∧ (R.1 11 l = 0 ↔ R.1 13 l = 0)) ∧
  (∀ d, 1 ≤ d → d ≤ R.1 15 0 → (1 ≤ R.1 16 d ∧ R.1 16 d ≤ 5) ∧ R.1 17 d ≤ 30000 ∧ R.1 18 d ≤ 300 ∧ R.1 19 d ≤ 300 ∧ R.1 20 d ≤ 300 ∧ R.1 21 d ≤ 25401600 ∧ (R.1 16 d = 5 → 1 ≤ R.1 18 d ∧ R.1 18 d ≤ R.1 25 0)) ∧
  (∀ e, 1 ≤ e → e ≤ R.1 25 0 → (1 ≤ R.1 26 e ∧ R.1 26 e ≤ R.1 15 0) ∧ R.1 27 e ≤ R.1 15 0 ∧ 1 ≤ R.1 28 e ∧ R.1 28 e ≤ R.1 7 0) ∧
  ∀ i, inR (aLg R i)
abbrev aF (R : AR) (d : Nat) (day ent : Int) : Prop := (R.1 17 d : Int) ≤ day ∧ (d : Int) ≤ ent
def aB (R : AR) (l : Nat) (day ent : Int) : Prop := (R.1 11 l = 0 ∨ aF R (R.1 11 l) day ent) ∧ ¬ (R.1 12 l ≠ 0 ∧ aF R (R.1 12 l) day ent)
def aS (R : AR) (e : Nat) (day ent : Int) : Prop := aF R (R.1 26 e) day ent ∧ ¬ (R.1 27 e ≠ 0 ∧ aF R (R.1 27 e) day ent)
def aBu (R : AR) (e l : Nat) (day ent : Int) : Prop := aIh R e l = true ∧ aS R e day ent ∧ aB R l day ent
section MDS
variable {S : MS} {R : AR}
theorem MD.sc (h : MD S R) {f : Nat} (hf : f = 2 ∨ f = 3 ∨ f = 7 ∨ f = 15 ∨ f = 25 ∨ f = 30 ∨ f = 31) : S.1 f = (R.1 f 0 : Int) := h.1.2 f hf
theorem MD.nl (h : MD S R) : S.1 7 = (R.1 7 0 : Int) := h.1.2 7 (by omega)
theorem MD.nd (h : MD S R) : S.1 15 = (R.1 15 0 : Int) := h.1.2 15 (by omega)
theorem MD.ne (h : MD S R) : S.1 25 = (R.1 25 0 : Int) := h.1.2 25 (by omega)
theorem MD.lot (h : MD S R) {l : Nat} (h1 : 1 ≤ l) (h2 : l ≤ R.1 7 0) {f : Nat} (f1 : 11 ≤ f) (f2 : f ≤ 14) : S.2 f l = (R.1 f l : Int) := (h.2.2.1 l h1 h2).2.2 f f1 f2
theorem MD.deed (h : MD S R) {d : Nat} (h1 : 1 ≤ d) (h2 : d ≤ R.1 15 0) {f : Nat} (f1 : 16 ≤ f) (f2 : f ≤ 24) : S.2 f d = (R.1 f d : Int) := h.2.2.2.1 d h1 h2 f f1 f2
theorem MD.eas (h : MD S R) {e : Nat} (h1 : 1 ≤ e) (h2 : e ≤ R.1 25 0) {f : Nat} (f1 : 26 ≤ f) (f2 : f ≤ 28) : S.2 f e = (R.1 f e : Int) := h.2.2.2.2.1 e h1 h2 f f1 f2
theorem WR.rg (w : WR R) {l : Nat} (h1 : 1 ≤ l) (h2 : l ≤ R.1 7 0) : rg_ok (aRing R l) := (w.2.2.1 l h1 h2).1
theorem nmodc {k n : Nat} : ((k : Int) % (n : Int)) = ((k % n : Nat) : Int) := rfl
theorem MD.xy (h : MD S R) (w : WR R) {l : Nat} (h1 : 1 ≤ l) (h2 : l ≤ R.1 7 0) (k : Nat) : ((60 * (l : Int)) + ((k : Int) % (S.2 10 l))).toNat = 60 * l + k % (aRing R l).length ∧ S.2 8 (60 * l + k % (aRing R l).length) = (ig_at (aRing R l) k).1 ∧ S.2 9 (60 * l + k % (aRing R l).length) = (ig_at (aRing R l) k).2 := by
  have hr := w.rg h1 h2
  have hh := h.2.2.1 l h1 h2
  have hp : 0 < (aRing R l).length := by have := hr.2.1.1; omega
  have hk : k % (aRing R l).length < (aRing R l).length := Nat.mod_lt _ hp
  have := hh.2.1 _ hk
  rw [ig_at_mod] at this
  refine ⟨?_, this⟩
  rw [hh.1, nmodc]; omega
theorem sp_Mo_cornerX {post : Int → MS → Prop} (h : MD S R) (w : WR R) {l : Nat} (h1 : 1 ≤ l) (h2 : l ≤ R.1 7 0) {k : Nat} (hk : k ≤ 100000) (hp : post (ig_at (aRing R l) k).1 S) : wp_Mo_cornerX post l k S := by
  have hr := w.rg h1 h2
  have hh := h.2.2.1 l h1 h2
  have hl := w.1.1
  obtain ⟨e1, e2, e3⟩ := h.xy w h1 h2 k
  have hk2 : k % (aRing R l).length < (aRing R l).length := Nat.mod_lt _ (by have := hr.2.1.1; omega)
  have hr2 := hr.2.1
  unfold wp_Mo_cornerX
  rw [Int.toNat_natCast]
  refine ⟨⟨by omega, by omega⟩, ⟨by omega, by rw [hh.1]; omega⟩, ⟨?_, ?_⟩, ?_⟩
  · rw [hh.1, nmodc]; omega
  · rw [hh.1, nmodc]; omega
  · rw [e1, e2]; exact hp
theorem sp_Mo_cornerY {post : Int → MS → Prop} (h : MD S R) (w : WR R) {l : Nat} (h1 : 1 ≤ l) (h2 : l ≤ R.1 7 0) {k : Nat} (hk : k ≤ 100000) (hp : post (ig_at (aRing R l) k).2 S) : wp_Mo_cornerY post l k S := by
  have hr := w.rg h1 h2
  have hh := h.2.2.1 l h1 h2
  have hl := w.1.1
  obtain ⟨e1, e2, e3⟩ := h.xy w h1 h2 k
  have hk2 : k % (aRing R l).length < (aRing R l).length := Nat.mod_lt _ (by have := hr.2.1.1; omega)
  have hr2 := hr.2.1
  unfold wp_Mo_cornerY
  rw [Int.toNat_natCast]
  refine ⟨⟨by omega, by omega⟩, ⟨by omega, by rw [hh.1]; omega⟩, ⟨?_, ?_⟩, ?_⟩
  · rw [hh.1, nmodc]; omega
  · rw [hh.1, nmodc]; omega
  · rw [e1, e3]; exact hp
theorem sp_Mo_isInForce {post : Int → MS → Prop} (h : MD S R) (w : WR R) {d : Nat} {day ent : Int} (h1 : 1 ≤ d) (h2 : d ≤ R.1 15 0) (hd : inR day) (he : inR ent) (p1 : aF R d day ent → post 1 S) (p0 : ¬ aF R d day ent → post 0 S) : wp_Mo_isInForce post d day ent S := by
  have e := h.deed h1 h2 (f := 17) (by omega) (by omega)
  have wd := w.2.2.2.1 d h1 h2
  have wn := w.1.2.1
  unfold wp_Mo_isInForce
  rw [Int.toNat_natCast, e]
  refine ⟨⟨by omega, by omega⟩, by unfold inR; omega, hd, fun c => p0 (by omega), fun c => ⟨by unfold inR; omega, he, fun c2 => p0 (by omega), fun c2 => p1 (by omega)⟩⟩
theorem sp_Mo_isInBeing {post : Int → MS → Prop} (h : MD S R) (w : WR R) {l : Nat} {day ent : Int} (h1 : 1 ≤ l) (h2 : l ≤ R.1 7 0) (hd : inR day) (he : inR ent) (p1 : aB R l day ent → post 1 S) (p0 : ¬ aB R l day ent → post 0 S) : wp_Mo_isInBeing post l day ent S := by
  have e1 := h.lot h1 h2 (f := 11) (by omega) (by omega)
  have e2 := h.lot h1 h2 (f := 12) (by omega) (by omega)
  have wl := w.2.2.1 l h1 h2
  have wn := w.1.2.1
  have wl0 := w.1.1
  have key : ∀ b : Bool, (b = true ↔ (R.1 11 l = 0 ∨ aF R (R.1 11 l) day ent)) → wp_Mo_isInBeing_29 post l day ent (bI b) S := by
    intro b hb
    unfold wp_Mo_isInBeing_29
    rw [Int.toNat_natCast, e2]
    refine ⟨bI_in _, fun c => p0 ?_, fun c => ⟨⟨by omega, by omega⟩, by unfold inR; omega, fun c2 => p1 ?_, fun c2 => ⟨⟨by omega, by omega⟩, ?_⟩⟩⟩
    · rintro ⟨f, _⟩
      rw [bI_0.mp c] at hb
      cases hb.mpr f
    · have hb' : b = true := by cases b with | true => rfl | false => exact absurd rfl c
      exact ⟨hb.mp hb', fun f => f.1 (by omega)⟩
    · have hb' : b = true := by cases b with | true => rfl | false => exact absurd rfl c
      refine sp_Mo_isInForce h w (by omega) (by omega) hd he (fun f => ⟨inR_lit1, fun _ => p0 (fun g => g.2 ⟨by omega, f⟩), fun g => absurd g (by decide)⟩) (fun f => ⟨inR_lit0, fun g => absurd rfl g, fun _ => p1 ⟨hb.mp hb', fun g => f g.2⟩⟩)
  unfold wp_Mo_isInBeing
  rw [Int.toNat_natCast, e1]
  refine ⟨⟨by omega, by omega⟩, by unfold inR; omega, fun c => key true ⟨fun _ => Or.inl (by omega), fun _ => rfl⟩, fun c => ⟨⟨by omega, by omega⟩, ?_⟩⟩
  refine sp_Mo_isInForce h w (by omega) (by omega) hd he (fun f => ⟨inR_lit1, fun g => absurd g (by decide), fun _ => key true ⟨fun _ => Or.inr f, fun _ => rfl⟩⟩) (fun f => ⟨inR_lit0, fun _ => key false ⟨fun g => absurd g (by decide), fun g => g.elim (fun g => absurd g (by omega)) (fun g => absurd g f)⟩, fun g => absurd rfl g⟩)
theorem sp_Mo_stands {post : Int → MS → Prop} (h : MD S R) (w : WR R) {e : Nat} {day ent : Int} (h1 : 1 ≤ e) (h2 : e ≤ R.1 25 0) (hd : inR day) (he : inR ent) (p1 : aS R e day ent → post 1 S) (p0 : ¬ aS R e day ent → post 0 S) : wp_Mo_stands post e day ent S := by
  have e1 := h.eas h1 h2 (f := 26) (by omega) (by omega)
  have e2 := h.eas h1 h2 (f := 27) (by omega) (by omega)
  have we := w.2.2.2.2.1 e h1 h2
  have wn := w.1.2.1
  have wn2 := w.1.2.2.1
  unfold wp_Mo_stands
  rw [Int.toNat_natCast, e1]
  refine ⟨⟨by omega, by omega⟩, sp_Mo_isInForce h w (by omega) (by omega) hd he (fun f => ⟨inR_lit1, fun g => absurd g (by decide), fun _ => ⟨⟨by omega, by omega⟩, ?_⟩⟩) (fun f => ⟨inR_lit0, fun _ => p0 (fun g => f g.1), fun g => absurd rfl g⟩)⟩
  rw [e2]
  refine ⟨by unfold inR; omega, fun c => p1 ⟨f, fun g => g.1 (by omega)⟩, fun c => ⟨⟨by omega, by omega⟩, ?_⟩⟩
  refine sp_Mo_isInForce h w (by omega) (by omega) hd he (fun k => ⟨inR_lit1, fun _ => p0 (fun g => g.2 ⟨by omega, k⟩), fun g => absurd g (by decide)⟩) (fun k => ⟨inR_lit0, fun g => absurd rfl g, fun _ => p1 ⟨f, fun g => k g.2⟩⟩)
end MDS
