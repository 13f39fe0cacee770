-- pure rows: AL
section
/-! pure rows: the reference's machine: values, frames, the stack -/
def Sbt (P : Facts) (i_0 : Nat) (i_1 : Nat) : Prop := ∀ R_ : Nat → Nat → Prop, (∀ (t : Nat), R_ t t) → (∀ (t u v : Nat), P.fit t u → R_ u v → R_ t v) → R_ i_0 i_1
theorem Sbt.rfl' {P : Facts} {t : Nat}  : Sbt P t t := fun R_ h_0 h_1 => h_0 t
theorem Sbt.step {P : Facts} {t u v : Nat} (p_0 : P.fit t u) (p_1 : Sbt P u v) : Sbt P t v := fun R_ h_0 h_1 => h_1 t u v p_0 (p_1 R_ h_0 h_1)
theorem Sbt.ind {P : Facts} {motive : ∀ (i_0 : Nat) (i_1 : Nat), Sbt P i_0 i_1 → Prop} (rfl' : ∀ {t : Nat} , motive t t (Sbt.rfl')) (step : ∀ {t u v : Nat} (p_0 : P.fit t u) (p_1 : Sbt P u v), (motive u v (p_1)) → motive t v (Sbt.step p_0 p_1)) {i_0 : Nat} {i_1 : Nat} (h : Sbt P i_0 i_1) : motive i_0 i_1 h := Exists.elim (h (fun i_0 i_1 => ∃ h : Sbt P i_0 i_1, motive i_0 i_1 h) (fun t => ⟨Sbt.rfl' , rfl' ⟩) (fun t u v p_0 p_1 => ⟨Sbt.step p_0 ((p_1).choose), step p_0 ((p_1).choose) ((p_1).choose_spec)⟩)) (fun _ m => m)
theorem Sbt.cs {P : Facts} {motive : ∀ (i_0 : Nat) (i_1 : Nat), Sbt P i_0 i_1 → Prop} (rfl' : ∀ {t : Nat} , motive t t (Sbt.rfl')) (step : ∀ {t u v : Nat} (p_0 : P.fit t u) (p_1 : Sbt P u v), motive t v (Sbt.step p_0 p_1)) {i_0 : Nat} {i_1 : Nat} (h : Sbt P i_0 i_1) : motive i_0 i_1 h := Sbt.ind (motive := motive) rfl' (fun p_0 p_1 _ => step p_0 p_1) h
theorem Sbt.trans {P : Facts} {t u v : Nat} (h : Sbt P t u) (g : Sbt P u v) : Sbt P t v := by
  induction h using Sbt.ind with
  | rfl' => exact g
  | step f _ ih => exact .step f (ih g)
theorem Sbt.of {P : Facts} {t u : Nat} (h : P.fit t u) : Sbt P t u := .step h .rfl'
theorem Sbt.fn {P : Facts} (hP : FactsOk P) {f f' : Nat} (h : Sbt P f f') : ∀ {a' r' : Nat}, P.fn f' a' r' → ∃ a r, P.fn f a r ∧ Sbt P a' a ∧ Sbt P r r' := by
  induction h using Sbt.ind with
  | rfl' => intro a' r' h; exact ⟨a', r', h, .rfl', .rfl'⟩
  | step f _ ih =>
    intro a' r' h
    obtain ⟨a, r, h1, h2, h3⟩ := ih h
    rcases hP.fit _ _ f with e | ⟨b, s, b', s', g1, g2, g3, g4⟩
    · subst e; exact ⟨a, r, h1, h2, h3⟩
    · obtain ⟨e1, e2⟩ := hP.un _ _ _ _ _ h1 g2
      subst e1 e2
      exact ⟨b, s, g1, h2.trans (.of g3), (Sbt.of g4).trans h3⟩
theorem Sbt.lo {P : Facts} (hP : FactsOk P) {t u : Nat} (h : Sbt P t u) (ht : t < 3) : t = u := by
  induction h using Sbt.ind with
  | rfl' => rfl
  | step f _ ih =>
    rcases hP.fit _ _ f with e | ⟨b, s, b', s', g1, g2, g3, g4⟩
    · subst e; exact ih ht
    · have := hP.ge _ _ _ g1; omega
/-- the nodes and the typing -/
abbrev Cx : Type := (Nat → Nat → Int32) × (Nat) × (Nat) × (Facts) × (Nat → Nat) × (Nat → Nat)
abbrev Cx.A (self : Cx) : Nat → Nat → Int32 := self.1
abbrev Cx.N (self : Cx) : Nat := self.2.1
abbrev Cx.C (self : Cx) : Nat := self.2.2.1
abbrev Cx.P (self : Cx) : Facts := self.2.2.2.1
abbrev Cx.tk (self : Cx) : Nat → Nat := self.2.2.2.2.1
abbrev Cx.gv (self : Cx) : Nat → Nat := self.2.2.2.2.2
theorem Cx.A_mk (y_0 : Nat → Nat → Int32) (y_1 : Nat) (y_2 : Nat) (y_3 : Facts) (y_4 : Nat → Nat) (y_5 : Nat → Nat) : Cx.A (y_0, y_1, y_2, y_3, y_4, y_5) = y_0 := rfl
theorem Cx.N_mk (y_0 : Nat → Nat → Int32) (y_1 : Nat) (y_2 : Nat) (y_3 : Facts) (y_4 : Nat → Nat) (y_5 : Nat → Nat) : Cx.N (y_0, y_1, y_2, y_3, y_4, y_5) = y_1 := rfl
theorem Cx.C_mk (y_0 : Nat → Nat → Int32) (y_1 : Nat) (y_2 : Nat) (y_3 : Facts) (y_4 : Nat → Nat) (y_5 : Nat → Nat) : Cx.C (y_0, y_1, y_2, y_3, y_4, y_5) = y_2 := rfl
theorem Cx.P_mk (y_0 : Nat → Nat → Int32) (y_1 : Nat) (y_2 : Nat) (y_3 : Facts) (y_4 : Nat → Nat) (y_5 : Nat → Nat) : Cx.P (y_0, y_1, y_2, y_3, y_4, y_5) = y_3 := rfl
theorem Cx.tk_mk (y_0 : Nat → Nat → Int32) (y_1 : Nat) (y_2 : Nat) (y_3 : Facts) (y_4 : Nat → Nat) (y_5 : Nat → Nat) : Cx.tk (y_0, y_1, y_2, y_3, y_4, y_5) = y_4 := rfl
theorem Cx.gv_mk (y_0 : Nat → Nat → Int32) (y_1 : Nat) (y_2 : Nat) (y_3 : Facts) (y_4 : Nat → Nat) (y_5 : Nat → Nat) : Cx.gv (y_0, y_1, y_2, y_3, y_4, y_5) = y_5 := rfl
def Good (X : Cx) (n : Nat) : Prop := n < X.N ∧ (X.A 12 n).toInt ≤ 400 ∧ (X.A 13 n).toInt ≤ 40
def Cx.Ok (X : Cx) : Prop := (FactsOk X.P) ∧ (X.N ≤ 200) ∧ (X.C ≤ 40) ∧ (TabOk X.A X.N) ∧ (∀ n, n < X.N → 0 ≤ (X.A 5 n).toInt ∧ (X.A 5 n).toInt ≤ 11) ∧ (∀ n, n < X.N → 4 ≤ (X.A 5 n).toInt → 0 ≤ (X.A 9 n).toInt) ∧ (∀ n, n < X.N → (X.A 5 n).toInt = 4 ∨ (X.A 5 n).toInt = 5 ∨ (X.A 5 n).toInt = 6 ∨ (X.A 5 n).toInt = 8 ∨ (X.A 5 n).toInt = 9 ∨ (X.A 5 n).toInt = 10 → 0 ≤ (X.A 10 n).toInt) ∧ (∀ n, n < X.N → (X.A 5 n).toInt = 6 → 0 ≤ (X.A 11 n).toInt) ∧ (∀ n, n < X.N → (X.A 5 n).toInt = 3 ∨ (X.A 5 n).toInt = 4 ∨ (X.A 5 n).toInt = 5 ∨ (X.A 5 n).toInt = 7 ∨ (X.A 5 n).toInt = 8 → 0 ≤ (X.A 6 n).toInt ∧ (X.A 6 n).toInt < 10) ∧ (∀ n, n < X.N → (X.A 5 n).toInt = 5 → 0 ≤ (X.A 7 n).toInt ∧ (X.A 7 n).toInt < 10) ∧ (∀ n, n < X.N → (X.A 5 n).toInt = 8 → 0 ≤ (X.A 14 n).toInt ∧ 0 ≤ (X.A 15 n).toInt ∧ (X.A 14 n).toInt + (X.A 15 n).toInt ≤ X.C) ∧ (∀ n, n < X.N → (X.A 5 n).toInt = 8 → ∀ q, (X.A 14 n).toInt.toNat ≤ q → q < (X.A 14 n).toInt.toNat + (X.A 15 n).toInt.toNat → (0 ≤ (X.A 16 q).toInt ∧ (X.A 16 q).toInt < 8) ∧ (0 ≤ (X.A 17 q).toInt ∧ (X.A 17 q).toInt < 10) ∧ (0 ≤ (X.A 18 q).toInt ∧ (X.A 18 q).toInt < 10) ∧ 0 ≤ (X.A 19 q).toInt)
theorem Cx.Ok.fo {X : Cx} (self : Cx.Ok X) : FactsOk X.P := self.1
theorem Cx.Ok.hN {X : Cx} (self : Cx.Ok X) : X.N ≤ 200 := self.2.1
theorem Cx.Ok.hC {X : Cx} (self : Cx.Ok X) : X.C ≤ 40 := self.2.2.1
theorem Cx.Ok.tab {X : Cx} (self : Cx.Ok X) : TabOk X.A X.N := self.2.2.2.1
theorem Cx.Ok.kd {X : Cx} (self : Cx.Ok X) : ∀ n, n < X.N → 0 ≤ (X.A 5 n).toInt ∧ (X.A 5 n).toInt ≤ 11 := self.2.2.2.2.1
theorem Cx.Ok.pa {X : Cx} (self : Cx.Ok X) : ∀ n, n < X.N → 4 ≤ (X.A 5 n).toInt → 0 ≤ (X.A 9 n).toInt := self.2.2.2.2.2.1
theorem Cx.Ok.pb {X : Cx} (self : Cx.Ok X) : ∀ n, n < X.N → (X.A 5 n).toInt = 4 ∨ (X.A 5 n).toInt = 5 ∨ (X.A 5 n).toInt = 6 ∨ (X.A 5 n).toInt = 8 ∨ (X.A 5 n).toInt = 9 ∨ (X.A 5 n).toInt = 10 → 0 ≤ (X.A 10 n).toInt := self.2.2.2.2.2.2.1
theorem Cx.Ok.pc {X : Cx} (self : Cx.Ok X) : ∀ n, n < X.N → (X.A 5 n).toInt = 6 → 0 ≤ (X.A 11 n).toInt := self.2.2.2.2.2.2.2.1
theorem Cx.Ok.nm {X : Cx} (self : Cx.Ok X) : ∀ n, n < X.N → (X.A 5 n).toInt = 3 ∨ (X.A 5 n).toInt = 4 ∨ (X.A 5 n).toInt = 5 ∨ (X.A 5 n).toInt = 7 ∨ (X.A 5 n).toInt = 8 → 0 ≤ (X.A 6 n).toInt ∧ (X.A 6 n).toInt < 10 := self.2.2.2.2.2.2.2.2.1
theorem Cx.Ok.rc {X : Cx} (self : Cx.Ok X) : ∀ n, n < X.N → (X.A 5 n).toInt = 5 → 0 ≤ (X.A 7 n).toInt ∧ (X.A 7 n).toInt < 10 := self.2.2.2.2.2.2.2.2.2.1
theorem Cx.Ok.cf {X : Cx} (self : Cx.Ok X) : ∀ n, n < X.N → (X.A 5 n).toInt = 8 → 0 ≤ (X.A 14 n).toInt ∧ 0 ≤ (X.A 15 n).toInt ∧ (X.A 14 n).toInt + (X.A 15 n).toInt ≤ X.C := self.2.2.2.2.2.2.2.2.2.2.1
theorem Cx.Ok.cl {X : Cx} (self : Cx.Ok X) : ∀ n, n < X.N → (X.A 5 n).toInt = 8 → ∀ q, (X.A 14 n).toInt.toNat ≤ q → q < (X.A 14 n).toInt.toNat + (X.A 15 n).toInt.toNat → (0 ≤ (X.A 16 q).toInt ∧ (X.A 16 q).toInt < 8) ∧ (0 ≤ (X.A 17 q).toInt ∧ (X.A 17 q).toInt < 10) ∧ (0 ≤ (X.A 18 q).toInt ∧ (X.A 18 q).toInt < 10) ∧ 0 ≤ (X.A 19 q).toInt := self.2.2.2.2.2.2.2.2.2.2.2
theorem Cx.Ok.of {X : Cx} {σ : mSt} {R T : Nat} (hP : FactsOk X.P) (h : NOk σ X.N X.C R T) (hA : ∀ k, 5 ≤ k → k ≤ 19 → σ.2.2.1 k = X.A k) : X.Ok := by
  have e := fun k h1 h2 n => congrFun (hA k h1 h2) n
  have t := TabOk.of h
  have hc := h.hc
  refine ⟨hP, h.hn, h.hc, ⟨fun n hn p hp => ?_, fun n hn => ?_, fun n hn hs => ?_, fun n hn => ?_⟩, fun n hn => ?_, fun n hn hk => ?_, fun n hn hk => ?_, fun n hn hk => ?_, fun n hn hk => ?_, fun n hn hk => ?_, fun n hn hk => ?_, fun n hn hk q h1 h2 => ?_⟩
  · have := t.part n hn p (by rw [parts_congr hA]; exact hp)
    rw [e 13 (by omega) (by omega), e 13 (by omega) (by omega)] at this; exact this
  · have := t.s1 n hn; rw [e 12 (by omega) (by omega)] at this; exact this
  · have := t.sum n hn (by rw [e 12 (by omega) (by omega)]; exact hs)
    rw [e 12 (by omega) (by omega), parts_congr hA] at this
    have e3 : ∀ l : List Nat, ssum σ.2.2.1 l = ssum X.A l := by
      intro l; induction l with
      | nil => rfl
      | cons p l ih => simp only [ssum, ih, e 12 (by omega) (by omega)]
    rw [e3] at this; exact this
  · have := t.dp n hn; rw [e 13 (by omega) (by omega)] at this; exact this
  · have := (h.nd n hn).k; unfold K at this; rw [e 5 (by omega) (by omega)] at this; exact this
  · have := (h.nd n hn).ha (by unfold K; rw [e 5 (by omega) (by omega)]; exact hk)
    rcases (h.nd n hn).pa with g | g
    · exact absurd g this
    · rw [e 9 (by omega) (by omega)] at g; exact g.1
  · have := (h.nd n hn).hb (by unfold K; rw [e 5 (by omega) (by omega)]; exact hk)
    rcases (h.nd n hn).pb with g | g
    · exact absurd g this
    · rw [e 10 (by omega) (by omega)] at g; exact g.1
  · have := (h.nd n hn).hc (by unfold K; rw [e 5 (by omega) (by omega)]; exact hk)
    rcases (h.nd n hn).pc with g | g
    · exact absurd g this
    · rw [e 11 (by omega) (by omega)] at g; exact g.1
  · have := (h.nd n hn).nm (by unfold K; rw [e 5 (by omega) (by omega)]; exact hk)
    rw [e 6 (by omega) (by omega)] at this; exact this
  · have := ((h.nd n hn).rc (by unfold K; rw [e 5 (by omega) (by omega)]; exact hk)).1
    rw [e 7 (by omega) (by omega)] at this; exact this
  · have h1 := (h.nd n hn).cf (by unfold K; rw [e 5 (by omega) (by omega)]; exact hk)
    have h2 := (h.nd n hn).cm
    rw [e 14 (by omega) (by omega), e 15 (by omega) (by omega)] at h1
    rw [e 15 (by omega) (by omega)] at h2
    omega
  · have g1 := (h.nd n hn).cf (by unfold K; rw [e 5 (by omega) (by omega)]; exact hk)
    have g2 := (h.nd n hn).cm
    rw [e 14 (by omega) (by omega), e 15 (by omega) (by omega)] at g1
    rw [e 15 (by omega) (by omega)] at g2
    have c := h.cl q (by omega)
    have c1 := c.e
    have c2 := c.x
    have c3 := c.k
    have c4 := c.b
    rw [e 16 (by omega) (by omega)] at c1
    rw [e 17 (by omega) (by omega)] at c2
    rw [e 18 (by omega) (by omega)] at c3
    rw [e 19 (by omega) (by omega)] at c4
    exact ⟨c1, c2, c3, c4.1⟩
theorem Good.part {X : Cx} (hX : X.Ok) {n p : Nat} (h : Good X n) (hp : p ∈ parts X.A n) : Good X p ∧ (X.A 13 p).toInt < (X.A 13 n).toInt ∧ 1 ≤ (X.A 13 p).toInt := by
  have h1 := hX.tab.part n h.1 p hp
  have h2 := hX.tab.sum n h.1 (by have := h.2.1; omega)
  have h3 := ssum_mem (A := X.A) hp
  have h5 := hX.tab.s1 n h.1
  have h4 : (X.A 12 p).toInt ≤ 400 := by have := h.2.1; omega
  have hn := h.1
  exact ⟨⟨by omega, h4, by have := h.2.2; omega⟩, h1.2, hX.tab.dp p (by omega)⟩
/-- how many functions and continuations there are, and their types -/
abbrev Sto : Type := (Nat) × (Nat) × (Nat → Nat) × (Nat → Nat)
abbrev Sto.nf (self : Sto) : Nat := self.1
abbrev Sto.nk (self : Sto) : Nat := self.2.1
abbrev Sto.ft (self : Sto) : Nat → Nat := self.2.2.1
abbrev Sto.kt (self : Sto) : Nat → Nat := self.2.2.2
theorem Sto.nf_mk (y_0 : Nat) (y_1 : Nat) (y_2 : Nat → Nat) (y_3 : Nat → Nat) : Sto.nf (y_0, y_1, y_2, y_3) = y_0 := rfl
theorem Sto.nk_mk (y_0 : Nat) (y_1 : Nat) (y_2 : Nat → Nat) (y_3 : Nat → Nat) : Sto.nk (y_0, y_1, y_2, y_3) = y_1 := rfl
theorem Sto.ft_mk (y_0 : Nat) (y_1 : Nat) (y_2 : Nat → Nat) (y_3 : Nat → Nat) : Sto.ft (y_0, y_1, y_2, y_3) = y_2 := rfl
theorem Sto.kt_mk (y_0 : Nat) (y_1 : Nat) (y_2 : Nat → Nat) (y_3 : Nat → Nat) : Sto.kt (y_0, y_1, y_2, y_3) = y_3 := rfl
def Sto.le (S S' : Sto) : Prop := (S.nf ≤ S'.nf) ∧ (S.nk ≤ S'.nk) ∧ (∀ i, i < S.nf → S'.ft i = S.ft i) ∧ (∀ i, i < S.nk → S'.kt i = S.kt i)
theorem Sto.le.nf {S S' : Sto} (self : Sto.le S S') : S.nf ≤ S'.nf := self.1
theorem Sto.le.nk {S S' : Sto} (self : Sto.le S S') : S.nk ≤ S'.nk := self.2.1
theorem Sto.le.ft {S S' : Sto} (self : Sto.le S S') : ∀ i, i < S.nf → S'.ft i = S.ft i := self.2.2.1
theorem Sto.le.kt {S S' : Sto} (self : Sto.le S S') : ∀ i, i < S.nk → S'.kt i = S.kt i := self.2.2.2
theorem Sto.le.rfl' {S : Sto} : S.le S := ⟨Nat.le_refl _, Nat.le_refl _, fun _ _ => rfl, fun _ _ => rfl⟩
/-- v is a value of type t -/
def V (P : Facts) (S : Sto) (v : Int64) (t : Nat) : Prop := 3 ≤ t → (0 ≤ v.toInt ∧ v.toInt.toNat < S.nf ∧ Sbt P (S.ft v.toInt.toNat) t) ∨ (v.toInt < 0 ∧ (-1 - v.toInt).toNat < S.nk ∧ Sbt P (S.kt (-1 - v.toInt).toNat) t)
theorem V.mono {P : Facts} {S S' : Sto} (hS : S.le S') {v : Int64} {t : Nat} (h : V P S v t) : V P S' v t := by
  intro h3
  rcases h h3 with ⟨a, b, c⟩ | ⟨a, b, c⟩
  · exact Or.inl ⟨a, by have := hS.nf; omega, by rw [hS.ft _ b]; exact c⟩
  · exact Or.inr ⟨a, by have := hS.nk; omega, by rw [hS.kt _ b]; exact c⟩
theorem V.sub {P : Facts} (hP : FactsOk P) {S : Sto} {v : Int64} {t u : Nat} (h : V P S v t) (hs : Sbt P t u) : V P S v u := by
  intro h3
  by_cases ht : 3 ≤ t
  · rcases h ht with ⟨a, b, c⟩ | ⟨a, b, c⟩
    · exact Or.inl ⟨a, b, c.trans hs⟩
    · exact Or.inr ⟨a, b, c.trans hs⟩
  · have := hs.lo hP (by omega); omega
theorem V.lo {P : Facts} {S : Sto} {v : Int64} {t : Nat} (h : t < 3) : V P S v t := fun h3 => by omega
def SeeOk (P : Facts) (S : Sto) (see : Nat → Int64) (g : Nat → Int) : Prop := ∀ k, k < 10 → ∀ t : Nat, g k = t → V P S (see k) t
theorem SeeOk.mono {P : Facts} {S S' : Sto} (hS : S.le S') {see : Nat → Int64} {g : Nat → Int} (h : SeeOk P S see g) : SeeOk P S' see g := fun k hk t e => (h k hk t e).mono hS
theorem SeeOk.xenv {P : Facts} {S : Sto} {see see' : Nat → Int64} {g : Nat → Int} (h : SeeOk P S see g) {x : Nat} {t : Nat} (hv : V P S (see' x) t) (he : ∀ k, k < 10 → k ≠ x → see' k = see k) : SeeOk P S see' (env g x t) := by
  intro k hk u e
  unfold env at e
  by_cases hx : k = x
  · subst hx; rw [if_pos rfl] at e; have : t = u := by omega
    subst this; exact hv
  · rw [if_neg hx] at e; rw [he k hk hx]; exact h k hk u e
abbrev Fr : Type := (Int32) × (Int32) × (Int64) × (Nat → Int64)
abbrev Fr.node (self : Fr) : Int32 := self.1
abbrev Fr.stage (self : Fr) : Int32 := self.2.1
abbrev Fr.val (self : Fr) : Int64 := self.2.2.1
abbrev Fr.see (self : Fr) : Nat → Int64 := self.2.2.2
theorem Fr.node_mk (y_0 : Int32) (y_1 : Int32) (y_2 : Int64) (y_3 : Nat → Int64) : Fr.node (y_0, y_1, y_2, y_3) = y_0 := rfl
theorem Fr.stage_mk (y_0 : Int32) (y_1 : Int32) (y_2 : Int64) (y_3 : Nat → Int64) : Fr.stage (y_0, y_1, y_2, y_3) = y_1 := rfl
theorem Fr.val_mk (y_0 : Int32) (y_1 : Int32) (y_2 : Int64) (y_3 : Nat → Int64) : Fr.val (y_0, y_1, y_2, y_3) = y_2 := rfl
theorem Fr.see_mk (y_0 : Int32) (y_1 : Int32) (y_2 : Int64) (y_3 : Nat → Int64) : Fr.see (y_0, y_1, y_2, y_3) = y_3 := rfl
/-- a frame that takes a t gives a u -/
def FrameOk (X : Cx) (S : Sto) (f : Fr) (t u : Nat) : Prop := ∀ R_ : Prop, (f.node = -1 → Sbt X.P t u → R_) → (∀ (n : Nat) (g : Nat → Int) (t0 u0 : Nat), f.node.toInt = n → Good X n → (X.A 5 n).toInt = 4 → SeeOk X.P S f.see g → Sbt X.P t t0 → Ty X.A X.P X.tk X.gv (env g (X.A 6 n).toInt.toNat t0) (X.A 10 n).toInt.toNat u0 → Sbt X.P u0 u → R_) → (∀ (n : Nat) (g : Nat → Int) (u0 : Nat), f.node.toInt = n → Good X n → (X.A 5 n).toInt = 6 → SeeOk X.P S f.see g → Ty X.A X.P X.tk X.gv g (X.A 10 n).toInt.toNat u0 → Ty X.A X.P X.tk X.gv g (X.A 11 n).toInt.toNat u0 → Sbt X.P u0 u → R_) → (∀ (n : Nat) (g : Nat → Int) (t0 u0 : Nat) (ks us : Nat → Nat), f.node.toInt = n → Good X n → (X.A 5 n).toInt = 8 → SeeOk X.P S f.see g → Sbt X.P t t0 → Ty X.A X.P X.tk X.gv (env g (X.A 6 n).toInt.toNat t0) (X.A 10 n).toInt.toNat u0 → (∀ q, (X.A 14 n).toInt.toNat ≤ q → q < (X.A 14 n).toInt.toNat + (X.A 15 n).toInt.toNat → X.P.fn (ks q) (X.gv (X.A 16 q).toInt.toNat) u0 ∧ Ty X.A X.P X.tk X.gv (env (env g (X.A 17 q).toInt.toNat (X.tk (X.A 16 q).toInt.toNat)) (X.A 18 q).toInt.toNat (ks q)) (X.A 19 q).toInt.toNat (us q) ∧ X.P.fit (us q) u0) → Sbt X.P u0 u → R_) → (∀ (n : Nat) (g : Nat → Int), f.node.toInt = n → Good X n → (X.A 5 n).toInt = 9 → f.stage = 0 → SeeOk X.P S f.see g → Ty X.A X.P X.tk X.gv g (X.A 10 n).toInt.toNat 0 → Sbt X.P (if (X.A 6 n).toInt < 3 then 0 else 1) u → R_) → (∀ (n : Nat), f.node.toInt = n → Good X n → (X.A 5 n).toInt = 9 → f.stage ≠ 0 → Sbt X.P (if (X.A 6 n).toInt < 3 then 0 else 1) u → R_) → (∀ (n : Nat) (g : Nat → Int) (f0 a r t2 : Nat), f.node.toInt = n → Good X n → (X.A 5 n).toInt = 10 → f.stage = 0 → SeeOk X.P S f.see g → Sbt X.P t f0 → X.P.fn f0 a r → Ty X.A X.P X.tk X.gv g (X.A 10 n).toInt.toNat t2 → X.P.fit t2 a → Sbt X.P r u → R_) → (∀ (n : Nat) (f0 a r : Nat), f.node.toInt = n → Good X n → (X.A 5 n).toInt = 10 → f.stage ≠ 0 → V X.P S f.val f0 → X.P.fn f0 a r → Sbt X.P t a → Sbt X.P r u → R_) → (∀ (n : Nat), f.node.toInt = n → Good X n → (X.A 5 n).toInt = 11 → Sbt X.P t (X.tk (X.A 6 n).toInt.toNat) → Sbt X.P (X.gv (X.A 6 n).toInt.toNat) u → R_) → R_
theorem FrameOk.mark {X : Cx} {S : Sto} {f : Fr} {t u : Nat}  (p_0 : f.node = -1) (p_1 : Sbt X.P t u) : FrameOk X S f t u := fun R_ h_0 h_1 h_2 h_3 h_4 h_5 h_6 h_7 h_8 => h_0 p_0 p_1
theorem FrameOk.lett {X : Cx} {S : Sto} {f : Fr} {t u : Nat} (n : Nat) (g : Nat → Int) (t0 u0 : Nat) (p_0 : f.node.toInt = n) (p_1 : Good X n) (p_2 : (X.A 5 n).toInt = 4) (p_3 : SeeOk X.P S f.see g) (p_4 : Sbt X.P t t0) (p_5 : Ty X.A X.P X.tk X.gv (env g (X.A 6 n).toInt.toNat t0) (X.A 10 n).toInt.toNat u0) (p_6 : Sbt X.P u0 u) : FrameOk X S f t u := fun R_ h_0 h_1 h_2 h_3 h_4 h_5 h_6 h_7 h_8 => h_1 n g t0 u0 p_0 p_1 p_2 p_3 p_4 p_5 p_6
theorem FrameOk.ite {X : Cx} {S : Sto} {f : Fr} {t u : Nat} (n : Nat) (g : Nat → Int) (u0 : Nat) (p_0 : f.node.toInt = n) (p_1 : Good X n) (p_2 : (X.A 5 n).toInt = 6) (p_3 : SeeOk X.P S f.see g) (p_4 : Ty X.A X.P X.tk X.gv g (X.A 10 n).toInt.toNat u0) (p_5 : Ty X.A X.P X.tk X.gv g (X.A 11 n).toInt.toNat u0) (p_6 : Sbt X.P u0 u) : FrameOk X S f t u := fun R_ h_0 h_1 h_2 h_3 h_4 h_5 h_6 h_7 h_8 => h_2 n g u0 p_0 p_1 p_2 p_3 p_4 p_5 p_6
theorem FrameOk.han {X : Cx} {S : Sto} {f : Fr} {t u : Nat} (n : Nat) (g : Nat → Int) (t0 u0 : Nat) (ks us : Nat → Nat) (p_0 : f.node.toInt = n) (p_1 : Good X n) (p_2 : (X.A 5 n).toInt = 8) (p_3 : SeeOk X.P S f.see g) (p_4 : Sbt X.P t t0) (p_5 : Ty X.A X.P X.tk X.gv (env g (X.A 6 n).toInt.toNat t0) (X.A 10 n).toInt.toNat u0) (p_6 : (∀ q, (X.A 14 n).toInt.toNat ≤ q → q < (X.A 14 n).toInt.toNat + (X.A 15 n).toInt.toNat → X.P.fn (ks q) (X.gv (X.A 16 q).toInt.toNat) u0 ∧ Ty X.A X.P X.tk X.gv (env (env g (X.A 17 q).toInt.toNat (X.tk (X.A 16 q).toInt.toNat)) (X.A 18 q).toInt.toNat (ks q)) (X.A 19 q).toInt.toNat (us q) ∧ X.P.fit (us q) u0)) (p_7 : Sbt X.P u0 u) : FrameOk X S f t u := fun R_ h_0 h_1 h_2 h_3 h_4 h_5 h_6 h_7 h_8 => h_3 n g t0 u0 ks us p_0 p_1 p_2 p_3 p_4 p_5 p_6 p_7
theorem FrameOk.two0 {X : Cx} {S : Sto} {f : Fr} {t u : Nat} (n : Nat) (g : Nat → Int) (p_0 : f.node.toInt = n) (p_1 : Good X n) (p_2 : (X.A 5 n).toInt = 9) (p_3 : f.stage = 0) (p_4 : SeeOk X.P S f.see g) (p_5 : Ty X.A X.P X.tk X.gv g (X.A 10 n).toInt.toNat 0) (p_6 : Sbt X.P (if (X.A 6 n).toInt < 3 then 0 else 1) u) : FrameOk X S f t u := fun R_ h_0 h_1 h_2 h_3 h_4 h_5 h_6 h_7 h_8 => h_4 n g p_0 p_1 p_2 p_3 p_4 p_5 p_6
theorem FrameOk.two1 {X : Cx} {S : Sto} {f : Fr} {t u : Nat} (n : Nat) (p_0 : f.node.toInt = n) (p_1 : Good X n) (p_2 : (X.A 5 n).toInt = 9) (p_3 : f.stage ≠ 0) (p_4 : Sbt X.P (if (X.A 6 n).toInt < 3 then 0 else 1) u) : FrameOk X S f t u := fun R_ h_0 h_1 h_2 h_3 h_4 h_5 h_6 h_7 h_8 => h_5 n p_0 p_1 p_2 p_3 p_4
theorem FrameOk.cal0 {X : Cx} {S : Sto} {f : Fr} {t u : Nat} (n : Nat) (g : Nat → Int) (f0 a r t2 : Nat) (p_0 : f.node.toInt = n) (p_1 : Good X n) (p_2 : (X.A 5 n).toInt = 10) (p_3 : f.stage = 0) (p_4 : SeeOk X.P S f.see g) (p_5 : Sbt X.P t f0) (p_6 : X.P.fn f0 a r) (p_7 : Ty X.A X.P X.tk X.gv g (X.A 10 n).toInt.toNat t2) (p_8 : X.P.fit t2 a) (p_9 : Sbt X.P r u) : FrameOk X S f t u := fun R_ h_0 h_1 h_2 h_3 h_4 h_5 h_6 h_7 h_8 => h_6 n g f0 a r t2 p_0 p_1 p_2 p_3 p_4 p_5 p_6 p_7 p_8 p_9
theorem FrameOk.cal1 {X : Cx} {S : Sto} {f : Fr} {t u : Nat} (n : Nat) (f0 a r : Nat) (p_0 : f.node.toInt = n) (p_1 : Good X n) (p_2 : (X.A 5 n).toInt = 10) (p_3 : f.stage ≠ 0) (p_4 : V X.P S f.val f0) (p_5 : X.P.fn f0 a r) (p_6 : Sbt X.P t a) (p_7 : Sbt X.P r u) : FrameOk X S f t u := fun R_ h_0 h_1 h_2 h_3 h_4 h_5 h_6 h_7 h_8 => h_7 n f0 a r p_0 p_1 p_2 p_3 p_4 p_5 p_6 p_7
theorem FrameOk.per {X : Cx} {S : Sto} {f : Fr} {t u : Nat} (n : Nat) (p_0 : f.node.toInt = n) (p_1 : Good X n) (p_2 : (X.A 5 n).toInt = 11) (p_3 : Sbt X.P t (X.tk (X.A 6 n).toInt.toNat)) (p_4 : Sbt X.P (X.gv (X.A 6 n).toInt.toNat) u) : FrameOk X S f t u := fun R_ h_0 h_1 h_2 h_3 h_4 h_5 h_6 h_7 h_8 => h_8 n p_0 p_1 p_2 p_3 p_4
theorem FrameOk.ind {X : Cx} {S : Sto} {f : Fr} {t u : Nat} {motive : FrameOk X S f t u → Prop} (mark : ∀  (p_0 : f.node = -1) (p_1 : Sbt X.P t u), motive  (FrameOk.mark p_0 p_1)) (lett : ∀ (n : Nat) (g : Nat → Int) (t0 u0 : Nat) (p_0 : f.node.toInt = n) (p_1 : Good X n) (p_2 : (X.A 5 n).toInt = 4) (p_3 : SeeOk X.P S f.see g) (p_4 : Sbt X.P t t0) (p_5 : Ty X.A X.P X.tk X.gv (env g (X.A 6 n).toInt.toNat t0) (X.A 10 n).toInt.toNat u0) (p_6 : Sbt X.P u0 u), motive  (FrameOk.lett n g t0 u0 p_0 p_1 p_2 p_3 p_4 p_5 p_6)) (ite : ∀ (n : Nat) (g : Nat → Int) (u0 : Nat) (p_0 : f.node.toInt = n) (p_1 : Good X n) (p_2 : (X.A 5 n).toInt = 6) (p_3 : SeeOk X.P S f.see g) (p_4 : Ty X.A X.P X.tk X.gv g (X.A 10 n).toInt.toNat u0) (p_5 : Ty X.A X.P X.tk X.gv g (X.A 11 n).toInt.toNat u0) (p_6 : Sbt X.P u0 u), motive  (FrameOk.ite n g u0 p_0 p_1 p_2 p_3 p_4 p_5 p_6)) (han : ∀ (n : Nat) (g : Nat → Int) (t0 u0 : Nat) (ks us : Nat → Nat) (p_0 : f.node.toInt = n) (p_1 : Good X n) (p_2 : (X.A 5 n).toInt = 8) (p_3 : SeeOk X.P S f.see g) (p_4 : Sbt X.P t t0) (p_5 : Ty X.A X.P X.tk X.gv (env g (X.A 6 n).toInt.toNat t0) (X.A 10 n).toInt.toNat u0) (p_6 : (∀ q, (X.A 14 n).toInt.toNat ≤ q → q < (X.A 14 n).toInt.toNat + (X.A 15 n).toInt.toNat → X.P.fn (ks q) (X.gv (X.A 16 q).toInt.toNat) u0 ∧ Ty X.A X.P X.tk X.gv (env (env g (X.A 17 q).toInt.toNat (X.tk (X.A 16 q).toInt.toNat)) (X.A 18 q).toInt.toNat (ks q)) (X.A 19 q).toInt.toNat (us q) ∧ X.P.fit (us q) u0)) (p_7 : Sbt X.P u0 u), motive  (FrameOk.han n g t0 u0 ks us p_0 p_1 p_2 p_3 p_4 p_5 p_6 p_7)) (two0 : ∀ (n : Nat) (g : Nat → Int) (p_0 : f.node.toInt = n) (p_1 : Good X n) (p_2 : (X.A 5 n).toInt = 9) (p_3 : f.stage = 0) (p_4 : SeeOk X.P S f.see g) (p_5 : Ty X.A X.P X.tk X.gv g (X.A 10 n).toInt.toNat 0) (p_6 : Sbt X.P (if (X.A 6 n).toInt < 3 then 0 else 1) u), motive  (FrameOk.two0 n g p_0 p_1 p_2 p_3 p_4 p_5 p_6)) (two1 : ∀ (n : Nat) (p_0 : f.node.toInt = n) (p_1 : Good X n) (p_2 : (X.A 5 n).toInt = 9) (p_3 : f.stage ≠ 0) (p_4 : Sbt X.P (if (X.A 6 n).toInt < 3 then 0 else 1) u), motive  (FrameOk.two1 n p_0 p_1 p_2 p_3 p_4)) (cal0 : ∀ (n : Nat) (g : Nat → Int) (f0 a r t2 : Nat) (p_0 : f.node.toInt = n) (p_1 : Good X n) (p_2 : (X.A 5 n).toInt = 10) (p_3 : f.stage = 0) (p_4 : SeeOk X.P S f.see g) (p_5 : Sbt X.P t f0) (p_6 : X.P.fn f0 a r) (p_7 : Ty X.A X.P X.tk X.gv g (X.A 10 n).toInt.toNat t2) (p_8 : X.P.fit t2 a) (p_9 : Sbt X.P r u), motive  (FrameOk.cal0 n g f0 a r t2 p_0 p_1 p_2 p_3 p_4 p_5 p_6 p_7 p_8 p_9)) (cal1 : ∀ (n : Nat) (f0 a r : Nat) (p_0 : f.node.toInt = n) (p_1 : Good X n) (p_2 : (X.A 5 n).toInt = 10) (p_3 : f.stage ≠ 0) (p_4 : V X.P S f.val f0) (p_5 : X.P.fn f0 a r) (p_6 : Sbt X.P t a) (p_7 : Sbt X.P r u), motive  (FrameOk.cal1 n f0 a r p_0 p_1 p_2 p_3 p_4 p_5 p_6 p_7)) (per : ∀ (n : Nat) (p_0 : f.node.toInt = n) (p_1 : Good X n) (p_2 : (X.A 5 n).toInt = 11) (p_3 : Sbt X.P t (X.tk (X.A 6 n).toInt.toNat)) (p_4 : Sbt X.P (X.gv (X.A 6 n).toInt.toNat) u), motive  (FrameOk.per n p_0 p_1 p_2 p_3 p_4))  (h : FrameOk X S f t u) : motive h := Exists.elim (h (∃ h : FrameOk X S f t u, motive h) (fun p_0 p_1 => ⟨FrameOk.mark p_0 p_1, mark p_0 p_1⟩) (fun n g t0 u0 p_0 p_1 p_2 p_3 p_4 p_5 p_6 => ⟨FrameOk.lett n g t0 u0 p_0 p_1 p_2 p_3 p_4 p_5 p_6, lett n g t0 u0 p_0 p_1 p_2 p_3 p_4 p_5 p_6⟩) (fun n g u0 p_0 p_1 p_2 p_3 p_4 p_5 p_6 => ⟨FrameOk.ite n g u0 p_0 p_1 p_2 p_3 p_4 p_5 p_6, ite n g u0 p_0 p_1 p_2 p_3 p_4 p_5 p_6⟩) (fun n g t0 u0 ks us p_0 p_1 p_2 p_3 p_4 p_5 p_6 p_7 => ⟨FrameOk.han n g t0 u0 ks us p_0 p_1 p_2 p_3 p_4 p_5 p_6 p_7, han n g t0 u0 ks us p_0 p_1 p_2 p_3 p_4 p_5 p_6 p_7⟩) (fun n g p_0 p_1 p_2 p_3 p_4 p_5 p_6 => ⟨FrameOk.two0 n g p_0 p_1 p_2 p_3 p_4 p_5 p_6, two0 n g p_0 p_1 p_2 p_3 p_4 p_5 p_6⟩) (fun n p_0 p_1 p_2 p_3 p_4 => ⟨FrameOk.two1 n p_0 p_1 p_2 p_3 p_4, two1 n p_0 p_1 p_2 p_3 p_4⟩) (fun n g f0 a r t2 p_0 p_1 p_2 p_3 p_4 p_5 p_6 p_7 p_8 p_9 => ⟨FrameOk.cal0 n g f0 a r t2 p_0 p_1 p_2 p_3 p_4 p_5 p_6 p_7 p_8 p_9, cal0 n g f0 a r t2 p_0 p_1 p_2 p_3 p_4 p_5 p_6 p_7 p_8 p_9⟩) (fun n f0 a r p_0 p_1 p_2 p_3 p_4 p_5 p_6 p_7 => ⟨FrameOk.cal1 n f0 a r p_0 p_1 p_2 p_3 p_4 p_5 p_6 p_7, cal1 n f0 a r p_0 p_1 p_2 p_3 p_4 p_5 p_6 p_7⟩) (fun n p_0 p_1 p_2 p_3 p_4 => ⟨FrameOk.per n p_0 p_1 p_2 p_3 p_4, per n p_0 p_1 p_2 p_3 p_4⟩)) (fun _ m => m)
theorem FrameOk.cs {X : Cx} {S : Sto} {f : Fr} {t u : Nat} {motive : FrameOk X S f t u → Prop} (mark : ∀  (p_0 : f.node = -1) (p_1 : Sbt X.P t u), motive  (FrameOk.mark p_0 p_1)) (lett : ∀ (n : Nat) (g : Nat → Int) (t0 u0 : Nat) (p_0 : f.node.toInt = n) (p_1 : Good X n) (p_2 : (X.A 5 n).toInt = 4) (p_3 : SeeOk X.P S f.see g) (p_4 : Sbt X.P t t0) (p_5 : Ty X.A X.P X.tk X.gv (env g (X.A 6 n).toInt.toNat t0) (X.A 10 n).toInt.toNat u0) (p_6 : Sbt X.P u0 u), motive  (FrameOk.lett n g t0 u0 p_0 p_1 p_2 p_3 p_4 p_5 p_6)) (ite : ∀ (n : Nat) (g : Nat → Int) (u0 : Nat) (p_0 : f.node.toInt = n) (p_1 : Good X n) (p_2 : (X.A 5 n).toInt = 6) (p_3 : SeeOk X.P S f.see g) (p_4 : Ty X.A X.P X.tk X.gv g (X.A 10 n).toInt.toNat u0) (p_5 : Ty X.A X.P X.tk X.gv g (X.A 11 n).toInt.toNat u0) (p_6 : Sbt X.P u0 u), motive  (FrameOk.ite n g u0 p_0 p_1 p_2 p_3 p_4 p_5 p_6)) (han : ∀ (n : Nat) (g : Nat → Int) (t0 u0 : Nat) (ks us : Nat → Nat) (p_0 : f.node.toInt = n) (p_1 : Good X n) (p_2 : (X.A 5 n).toInt = 8) (p_3 : SeeOk X.P S f.see g) (p_4 : Sbt X.P t t0) (p_5 : Ty X.A X.P X.tk X.gv (env g (X.A 6 n).toInt.toNat t0) (X.A 10 n).toInt.toNat u0) (p_6 : (∀ q, (X.A 14 n).toInt.toNat ≤ q → q < (X.A 14 n).toInt.toNat + (X.A 15 n).toInt.toNat → X.P.fn (ks q) (X.gv (X.A 16 q).toInt.toNat) u0 ∧ Ty X.A X.P X.tk X.gv (env (env g (X.A 17 q).toInt.toNat (X.tk (X.A 16 q).toInt.toNat)) (X.A 18 q).toInt.toNat (ks q)) (X.A 19 q).toInt.toNat (us q) ∧ X.P.fit (us q) u0)) (p_7 : Sbt X.P u0 u), motive  (FrameOk.han n g t0 u0 ks us p_0 p_1 p_2 p_3 p_4 p_5 p_6 p_7)) (two0 : ∀ (n : Nat) (g : Nat → Int) (p_0 : f.node.toInt = n) (p_1 : Good X n) (p_2 : (X.A 5 n).toInt = 9) (p_3 : f.stage = 0) (p_4 : SeeOk X.P S f.see g) (p_5 : Ty X.A X.P X.tk X.gv g (X.A 10 n).toInt.toNat 0) (p_6 : Sbt X.P (if (X.A 6 n).toInt < 3 then 0 else 1) u), motive  (FrameOk.two0 n g p_0 p_1 p_2 p_3 p_4 p_5 p_6)) (two1 : ∀ (n : Nat) (p_0 : f.node.toInt = n) (p_1 : Good X n) (p_2 : (X.A 5 n).toInt = 9) (p_3 : f.stage ≠ 0) (p_4 : Sbt X.P (if (X.A 6 n).toInt < 3 then 0 else 1) u), motive  (FrameOk.two1 n p_0 p_1 p_2 p_3 p_4)) (cal0 : ∀ (n : Nat) (g : Nat → Int) (f0 a r t2 : Nat) (p_0 : f.node.toInt = n) (p_1 : Good X n) (p_2 : (X.A 5 n).toInt = 10) (p_3 : f.stage = 0) (p_4 : SeeOk X.P S f.see g) (p_5 : Sbt X.P t f0) (p_6 : X.P.fn f0 a r) (p_7 : Ty X.A X.P X.tk X.gv g (X.A 10 n).toInt.toNat t2) (p_8 : X.P.fit t2 a) (p_9 : Sbt X.P r u), motive  (FrameOk.cal0 n g f0 a r t2 p_0 p_1 p_2 p_3 p_4 p_5 p_6 p_7 p_8 p_9)) (cal1 : ∀ (n : Nat) (f0 a r : Nat) (p_0 : f.node.toInt = n) (p_1 : Good X n) (p_2 : (X.A 5 n).toInt = 10) (p_3 : f.stage ≠ 0) (p_4 : V X.P S f.val f0) (p_5 : X.P.fn f0 a r) (p_6 : Sbt X.P t a) (p_7 : Sbt X.P r u), motive  (FrameOk.cal1 n f0 a r p_0 p_1 p_2 p_3 p_4 p_5 p_6 p_7)) (per : ∀ (n : Nat) (p_0 : f.node.toInt = n) (p_1 : Good X n) (p_2 : (X.A 5 n).toInt = 11) (p_3 : Sbt X.P t (X.tk (X.A 6 n).toInt.toNat)) (p_4 : Sbt X.P (X.gv (X.A 6 n).toInt.toNat) u), motive  (FrameOk.per n p_0 p_1 p_2 p_3 p_4))  (h : FrameOk X S f t u) : motive h := FrameOk.ind (motive := motive) (fun p_0 p_1 => mark p_0 p_1) (fun n g t0 u0 p_0 p_1 p_2 p_3 p_4 p_5 p_6 => lett n g t0 u0 p_0 p_1 p_2 p_3 p_4 p_5 p_6) (fun n g u0 p_0 p_1 p_2 p_3 p_4 p_5 p_6 => ite n g u0 p_0 p_1 p_2 p_3 p_4 p_5 p_6) (fun n g t0 u0 ks us p_0 p_1 p_2 p_3 p_4 p_5 p_6 p_7 => han n g t0 u0 ks us p_0 p_1 p_2 p_3 p_4 p_5 p_6 p_7) (fun n g p_0 p_1 p_2 p_3 p_4 p_5 p_6 => two0 n g p_0 p_1 p_2 p_3 p_4 p_5 p_6) (fun n p_0 p_1 p_2 p_3 p_4 => two1 n p_0 p_1 p_2 p_3 p_4) (fun n g f0 a r t2 p_0 p_1 p_2 p_3 p_4 p_5 p_6 p_7 p_8 p_9 => cal0 n g f0 a r t2 p_0 p_1 p_2 p_3 p_4 p_5 p_6 p_7 p_8 p_9) (fun n f0 a r p_0 p_1 p_2 p_3 p_4 p_5 p_6 p_7 => cal1 n f0 a r p_0 p_1 p_2 p_3 p_4 p_5 p_6 p_7) (fun n p_0 p_1 p_2 p_3 p_4 => per n p_0 p_1 p_2 p_3 p_4) h
theorem FrameOk.mono {X : Cx} {S S' : Sto} (hS : S.le S') {f : Fr} {t u : Nat} (h : FrameOk X S f t u) : FrameOk X S' f t u := by
  cases h using FrameOk.cs with
  | mark a b => exact .mark a b
  | lett n g t0 u0 a b c d e f g => exact .lett n _ t0 u0 a b c (d.mono hS) e f g
  | ite n g u0 a b c d e f g => exact .ite n _ u0 a b c (d.mono hS) e f g
  | han n g t0 u0 ks us a b c d e f g h => exact .han n _ t0 u0 ks us a b c (d.mono hS) e f g h
  | two0 n g a b c d e f g => exact .two0 n _ a b c d (e.mono hS) f g
  | two1 n a b c d e => exact .two1 n a b c d e
  | cal0 n g f0 a r t2 a' b c d e f g h i j => exact .cal0 n _ f0 a r t2 a' b c d (e.mono hS) f g h i j
  | cal1 n f0 a r a' b c d e f g h => exact .cal1 n f0 a r a' b c d (e.mono hS) f g h
  | per n a b c d e => exact .per n a b c d e
theorem FrameOk.sub {X : Cx} {S : Sto} {f : Fr} {t t' u : Nat} (hs : Sbt X.P t' t) (h : FrameOk X S f t u) : FrameOk X S f t' u := by
  cases h using FrameOk.cs with
  | mark a b => exact .mark a (hs.trans b)
  | lett n g t0 u0 a b c d e f g => exact .lett n _ t0 u0 a b c d (hs.trans e) f g
  | ite n g u0 a b c d e f g => exact .ite n _ u0 a b c d e f g
  | han n g t0 u0 ks us a b c d e f g h => exact .han n _ t0 u0 ks us a b c d (hs.trans e) f g h
  | two0 n g a b c d e f g => exact .two0 n _ a b c d e f g
  | two1 n a b c d e => exact .two1 n a b c d e
  | cal0 n g f0 a r t2 a' b c d e f g h i j => exact .cal0 n _ f0 a r t2 a' b c d e (hs.trans f) g h i j
  | cal1 n f0 a r a' b c d e f g h => exact .cal1 n f0 a r a' b c d e f (hs.trans g) h
  | per n a b c d e => exact .per n a b c (hs.trans d) e
theorem FrameOk.node {X : Cx} {S : Sto} {f : Fr} {t u : Nat} (h : FrameOk X S f t u) : f.node = -1 ∨ ∃ n : Nat, f.node.toInt = n ∧ Good X n ∧ 4 ≤ (X.A 5 n).toInt ∧ (X.A 5 n).toInt ≠ 5 ∧ (X.A 5 n).toInt ≠ 7 := by
  cases h using FrameOk.cs with
  | mark a b => exact Or.inl a
  | lett n g t0 u0 a b c d e f g => exact Or.inr ⟨n, a, b, by omega, by omega, by omega⟩
  | ite n g u0 a b c d e f g => exact Or.inr ⟨n, a, b, by omega, by omega, by omega⟩
  | han n g t0 u0 ks us a b c d e f g h => exact Or.inr ⟨n, a, b, by omega, by omega, by omega⟩
  | two0 n g a b c d e f g => exact Or.inr ⟨n, a, b, by omega, by omega, by omega⟩
  | two1 n a b c d e => exact Or.inr ⟨n, a, b, by omega, by omega, by omega⟩
  | cal0 n g f0 a r t2 a' b c d e f g h i j => exact Or.inr ⟨n, a', b, by omega, by omega, by omega⟩
  | cal1 n f0 a r a' b c d e f g h => exact Or.inr ⟨n, a', b, by omega, by omega, by omega⟩
  | per n a b c d e => exact Or.inr ⟨n, a, b, by omega, by omega, by omega⟩
def ctd (A : Nat → Nat → Int32) (x : Int32) : Nat := if x = -1 then 1 else if A 5 x.toNatClampNeg = 8 then 1 else 0
def dpt (A : Nat → Nat → Int32) (x : Int32) : Int := if x = -1 then 41 else (A 13 x.toNatClampNeg).toInt
def sz3 (A : Nat → Nat → Int32) (x : Int32) : Nat := 3 * (A 12 x.toInt.toNat).toInt.toNat
/-- the work that a frame still stands for -/
def fw (A : Nat → Nat → Int32) (f : Fr) : Nat :=
  if f.node = -1 then 1
  else if (A 5 f.node.toInt.toNat).toInt = 6 then sz3 A (A 10 f.node.toInt.toNat) + sz3 A (A 11 f.node.toInt.toNat) + 2
  else if (A 5 f.node.toInt.toNat).toInt = 11 then 1
  else if ((A 5 f.node.toInt.toNat).toInt = 9 ∨ (A 5 f.node.toInt.toNat).toInt = 10) ∧ f.stage ≠ 0 then 1
  else sz3 A (A 10 f.node.toInt.toNat) + 2
/-- a run of frames that takes a t on top and gives a u below -/
def Seg (X : Cx) (S : Sto) (get : Nat → Fr) (lo : Nat) (i_0 : Nat) (i_1 : Nat) (i_2 : Nat) (i_3 : Nat) (i_4 : Int) (i_5 : Nat) : Prop := ∀ R_ : Nat → Nat → Nat → Nat → Int → Nat → Prop, (∀ (t u : Nat), Sbt X.P t u → R_ 0 t u 0 41 0) → (∀ (m t v u c w : Nat) (d : Int), R_ m v u c d w → FrameOk X S (get (lo + m)) t v → ctd X.A (get (lo + m)).node = 1 ∨ dpt X.A (get (lo + m)).node < d → R_ (m + 1) t u (c + ctd X.A (get (lo + m)).node) (dpt X.A (get (lo + m)).node) (w + fw X.A (get (lo + m)))) → R_ i_0 i_1 i_2 i_3 i_4 i_5
theorem Seg.nil {X : Cx} {S : Sto} {get : Nat → Fr} {lo : Nat} {t u : Nat} (p_0 : Sbt X.P t u) : Seg X S get lo 0 t u 0 41 0 := fun R_ h_0 h_1 => h_0 t u p_0
theorem Seg.cons {X : Cx} {S : Sto} {get : Nat → Fr} {lo : Nat} {m t v u c w : Nat} {d : Int} (p_0 : Seg X S get lo m v u c d w) (p_1 : FrameOk X S (get (lo + m)) t v) (p_2 : ctd X.A (get (lo + m)).node = 1 ∨ dpt X.A (get (lo + m)).node < d) : Seg X S get lo (m + 1) t u (c + ctd X.A (get (lo + m)).node) (dpt X.A (get (lo + m)).node) (w + fw X.A (get (lo + m))) := fun R_ h_0 h_1 => h_1 m t v u c w d (p_0 R_ h_0 h_1) p_1 p_2
theorem Seg.ind {X : Cx} {S : Sto} {get : Nat → Fr} {lo : Nat} {motive : ∀ (i_0 : Nat) (i_1 : Nat) (i_2 : Nat) (i_3 : Nat) (i_4 : Int) (i_5 : Nat), Seg X S get lo i_0 i_1 i_2 i_3 i_4 i_5 → Prop} (nil : ∀ {t u : Nat} (p_0 : Sbt X.P t u), motive 0 t u 0 41 0 (Seg.nil p_0)) (cons : ∀ {m t v u c w : Nat} {d : Int} (p_0 : Seg X S get lo m v u c d w) (p_1 : FrameOk X S (get (lo + m)) t v) (p_2 : ctd X.A (get (lo + m)).node = 1 ∨ dpt X.A (get (lo + m)).node < d), (motive m v u c d w (p_0)) → motive (m + 1) t u (c + ctd X.A (get (lo + m)).node) (dpt X.A (get (lo + m)).node) (w + fw X.A (get (lo + m))) (Seg.cons p_0 p_1 p_2)) {i_0 : Nat} {i_1 : Nat} {i_2 : Nat} {i_3 : Nat} {i_4 : Int} {i_5 : Nat} (h : Seg X S get lo i_0 i_1 i_2 i_3 i_4 i_5) : motive i_0 i_1 i_2 i_3 i_4 i_5 h := Exists.elim (h (fun i_0 i_1 i_2 i_3 i_4 i_5 => ∃ h : Seg X S get lo i_0 i_1 i_2 i_3 i_4 i_5, motive i_0 i_1 i_2 i_3 i_4 i_5 h) (fun t u p_0 => ⟨Seg.nil p_0, nil p_0⟩) (fun m t v u c w d p_0 p_1 p_2 => ⟨Seg.cons ((p_0).choose) p_1 p_2, cons ((p_0).choose) p_1 p_2 ((p_0).choose_spec)⟩)) (fun _ m => m)
theorem Seg.cs {X : Cx} {S : Sto} {get : Nat → Fr} {lo : Nat} {motive : ∀ (i_0 : Nat) (i_1 : Nat) (i_2 : Nat) (i_3 : Nat) (i_4 : Int) (i_5 : Nat), Seg X S get lo i_0 i_1 i_2 i_3 i_4 i_5 → Prop} (nil : ∀ {t u : Nat} (p_0 : Sbt X.P t u), motive 0 t u 0 41 0 (Seg.nil p_0)) (cons : ∀ {m t v u c w : Nat} {d : Int} (p_0 : Seg X S get lo m v u c d w) (p_1 : FrameOk X S (get (lo + m)) t v) (p_2 : ctd X.A (get (lo + m)).node = 1 ∨ dpt X.A (get (lo + m)).node < d), motive (m + 1) t u (c + ctd X.A (get (lo + m)).node) (dpt X.A (get (lo + m)).node) (w + fw X.A (get (lo + m))) (Seg.cons p_0 p_1 p_2)) {i_0 : Nat} {i_1 : Nat} {i_2 : Nat} {i_3 : Nat} {i_4 : Int} {i_5 : Nat} (h : Seg X S get lo i_0 i_1 i_2 i_3 i_4 i_5) : motive i_0 i_1 i_2 i_3 i_4 i_5 h := Seg.ind (motive := motive) (fun p_0 => nil p_0) (fun p_0 p_1 p_2 _ => cons p_0 p_1 p_2) h
theorem Seg.mono {X : Cx} {S S' : Sto} (hS : S.le S') {get : Nat → Fr} {lo m t u c w : Nat} {d : Int} (h : Seg X S get lo m t u c d w) : Seg X S' get lo m t u c d w := by
  induction h using Seg.ind with
  | nil h => exact .nil h
  | cons _ f k ih => exact .cons ih (f.mono hS) k
theorem Seg.sub {X : Cx} {S : Sto} {get : Nat → Fr} {lo m t t' u c w : Nat} {d : Int} (hs : Sbt X.P t' t) (h : Seg X S get lo m t u c d w) : Seg X S get lo m t' u c d w := by
  cases h using Seg.cs with
  | nil h => exact .nil (hs.trans h)
  | cons a f k => exact .cons a (f.sub hs) k
theorem Seg.copy {X : Cx} {S : Sto} {get get' : Nat → Fr} {lo lo' m t u c w : Nat} {d : Int} (h : Seg X S get lo m t u c d w) (e : ∀ i, i < m → get' (lo' + i) = get (lo + i)) : Seg X S get' lo' m t u c d w := by
  induction h using Seg.ind with
  | nil h => exact .nil h
  | @cons m t v u c w d a f k ih =>
    have e1 := e m (by omega)
    have := Seg.cons (ih (fun i hi => e i (by omega))) (by rw [e1]; exact f) (by rw [e1]; exact k)
    rw [e1] at this
    exact this
theorem dpt_le {X : Cx} {S : Sto} {f : Fr} {t u : Nat} (hX : X.Ok) (h : FrameOk X S f t u) : 1 ≤ dpt X.A f.node ∧ dpt X.A f.node ≤ 41 ∧ (f.node ≠ -1 → dpt X.A f.node ≤ 40) := by
  unfold dpt
  rcases h.node with e | ⟨n, e, g, _⟩
  · rw [if_pos e]; exact ⟨by omega, by omega, fun h => absurd e h⟩
  · have : f.node.toNatClampNeg = n := by show f.node.toInt.toNat = n; omega
    have hne : ¬ f.node = -1 := by intro h; rw [h] at e; simp only [i32_neg1] at e; omega
    rw [if_neg hne, this]
    have := hX.tab.dp n g.1
    have := g.2.2
    omega
theorem Seg.bound {X : Cx} (hX : X.Ok) {S : Sto} {get : Nat → Fr} {lo m t u c w : Nat} {d : Int} (h : Seg X S get lo m t u c d w) : m + d ≤ 41 * (c + 1) ∧ 1 ≤ d ∧ d ≤ 41 := by
  induction h using Seg.ind with
  | nil h => omega
  | @cons m t v u c w d a f k ih =>
    have := dpt_le hX f
    have hc : ctd X.A (get (lo + m)).node = 1 ∨ ctd X.A (get (lo + m)).node = 0 := by unfold ctd; split <;> (try split) <;> omega
    rcases hc with h1 | h1
    · rw [h1]; omega
    · rw [h1] at k ⊢; omega
/-- a run that begins with a handle -/
theorem Seg.bound8 {X : Cx} (hX : X.Ok) {S : Sto} {get : Nat → Fr} {lo m t u c w : Nat} {d : Int} (h : Seg X S get lo m t u c d w) (hm : 1 ≤ m) (h8 : (get lo).node ≠ -1) (hc8 : ctd X.A (get lo).node = 1) : m + d ≤ 41 * c ∧ 1 ≤ c := by
  induction h using Seg.ind with
  | nil h => omega
  | @cons m t v u c w d a f k ih =>
    have := dpt_le hX f
    have b := a.bound hX
    have hc : ctd X.A (get (lo + m)).node = 1 ∨ ctd X.A (get (lo + m)).node = 0 := by unfold ctd; split <;> (try split) <;> omega
    by_cases h0 : m = 0
    · subst h0
      simp only [Nat.add_zero] at *
      have hd : dpt X.A (get lo).node ≤ 40 := this.2.2 h8
      rw [hc8]
      omega
    · have := ih (by omega)
      rcases hc with h1 | h1
      · rw [h1]; omega
      · rw [h1] at k ⊢; omega
theorem sz3_le {X : Cx} {n : Nat} (x : Int32) (hX : X.Ok) (h : Good X n) (hx : x.toInt.toNat ∈ parts X.A n) : sz3 X.A x ≤ 1200 := by
  have := (h.part hX hx).1.2.1
  unfold sz3; omega
theorem fw_le {X : Cx} (hX : X.Ok) {S : Sto} {f : Fr} {t u : Nat} (h : FrameOk X S f t u) : fw X.A f ≤ 2402 := by
  unfold fw
  rcases h.node with e | ⟨n, e, g, h4, h5, h7⟩
  · rw [if_pos e]; omega
  split
  · omega
  have en : f.node.toInt.toNat = n := by omega
  rw [en]
  have k := (hX.kd n g.1).2
  split
  · rename_i h6
    have := sz3_le (X.A 10 n) hX g (parts_b (by omega))
    have := sz3_le (X.A 11 n) hX g (parts_c h6)
    omega
  split
  · omega
  split
  · omega
  · have := sz3_le (X.A 10 n) hX g (parts_b (by omega))
    omega
theorem Seg.wle {X : Cx} (hX : X.Ok) {S : Sto} {get : Nat → Fr} {lo m t u c w : Nat} {d : Int} (h : Seg X S get lo m t u c d w) : w ≤ 2402 * m := by
  induction h using Seg.ind with
  | nil h => omega
  | cons a f k ih => have := fw_le hX f; omega
theorem Seg.at {X : Cx} {S : Sto} {get : Nat → Fr} {lo m t u c w : Nat} {d : Int} (h : Seg X S get lo m t u c d w) : ∀ i, i < m → ∃ v v', FrameOk X S (get (lo + i)) v v' := by
  induction h using Seg.ind with
  | nil h => intro i hi; omega
  | @cons m t v u c w d a f k ih =>
    intro i hi
    by_cases hm : i = m
    · subst hm; exact ⟨_, _, f⟩
    · exact ih i (by omega)
/-- one run upon another -/
theorem Seg.comp {X : Cx} {S : Sto} {get : Nat → Fr} {lo lo' m t u u' c w c2 w2 m2 : Nat} {d d2 : Int} (h : Seg X S get lo m u u' c d w) (hl : lo' = lo + m) (g : Seg X S get lo' m2 t u c2 d2 w2) (h1 : 0 < m2 → ctd X.A (get lo').node = 1) : ∃ w', Seg X S get lo (m + m2) t u' (c + c2) (if m2 = 0 then d else d2) w' := by
  induction g using Seg.ind with
  | nil g => exact ⟨w, h.sub g⟩
  | @cons k t v u2 c3 w3 d3 a f kk ih =>
    obtain ⟨w', ih⟩ := ih h (fun _ => h1 (by omega))
    have e : get (lo + (m + k)) = get (lo' + k) := by rw [hl]; congr 1; omega
    have := Seg.cons (t := t) ih (by rw [e]; exact f) (by
      rw [e]
      by_cases hk : k = 0
      · subst hk; left; exact h1 (by omega)
      · rw [if_neg hk]; exact kk)
    rw [e] at this
    refine ⟨w' + fw X.A (get (lo' + k)), ?_⟩
    rw [if_neg (by omega), ← Nat.add_assoc c]
    exact this
theorem Seg.split {X : Cx} (hX : X.Ok) {S : Sto} {get : Nat → Fr} {lo : Nat} : ∀ {m2 m1 t u c w : Nat} {d : Int}, Seg X S get lo (m1 + m2) t u c d w → ∃ v c1 d1 w1 c2 d2 w2, Seg X S get lo m1 v u c1 d1 w1 ∧ Seg X S get (lo + m1) m2 t v c2 d2 w2 ∧ c = c1 + c2 ∧ (m2 = 0 ∨ d2 = d) := by
  intro m2
  induction m2 with
  | zero => intro m1 t u c w d h; exact ⟨t, c, d, w, 0, 41, 0, h, .nil .rfl', by omega, Or.inl rfl⟩
  | succ m2 ih =>
    intro m1 t u c w d h
    have h' : Seg X S get lo ((m1 + m2) + 1) t u c d w := h
    clear h
    generalize hmm : m1 + m2 = mm at h'
    cases h' using Seg.cs with
    | @cons _ _ v _ c w d a f k =>
      subst hmm
      obtain ⟨v', c1, d1, w1, c2, d2, w2, g1, g2, g3, g4⟩ := ih a
      have e : get (lo + (m1 + m2)) = get (lo + m1 + m2) := by congr 1; omega
      refine ⟨v', c1, d1, w1, _, _, _, g1, .cons g2 (by rw [← e]; exact f) ?_, ?_, Or.inr ?_⟩
      · rw [← e]
        rcases g4 with g4 | g4
        · have hf := dpt_le hX f
          by_cases hm : (get (lo + (m1 + m2))).node = -1
          · left; unfold ctd; rw [if_pos hm]
          · right
            subst g4
            cases g2 using Seg.cs with
            | nil _ => have := hf.2.2 hm; omega
        · rw [g4]; exact k
      · rw [← e, g3]; omega
      · rw [← e]
end
