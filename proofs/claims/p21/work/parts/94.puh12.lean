-- pure rows: HP
section
/-! pure rows: how the class's machine stands to the reference's -/
/-- where the class keeps what the reference numbers -/
abbrev Mp : Type := (Nat → Nat) × (Nat → Nat)
/-- x is to the class what v is to the reference, at type t -/
def VR (P : Facts) (S : Sto) (μ : Mp) (t : Nat) (x : Int32) (v : Int64) : Prop :=
  (t < 3 ∧ x.toInt = v.toInt) ∨ (3 ≤ t ∧ 0 ≤ v.toInt ∧ v.toInt.toNat < S.nf ∧ Sbt P (S.ft v.toInt.toNat) t ∧ x = nI (μ.1 v.toInt.toNat)) ∨ (3 ≤ t ∧ v.toInt < 0 ∧ (-1 - v.toInt).toNat < S.nk ∧ Sbt P (S.kt (-1 - v.toInt).toNat) t ∧ x = nI (μ.2 (-1 - v.toInt).toNat))
/-- more is known -/
def MpLe (S : Sto) (μ μ' : Mp) : Prop := (∀ i, i < S.nf → μ'.1 i = μ.1 i) ∧ (∀ i, i < S.nk → μ'.2 i = μ.2 i)
theorem MpLe.rfl' {S : Sto} {μ : Mp} : MpLe S μ μ := ⟨fun _ _ => rfl, fun _ _ => rfl⟩
theorem Sbt.hi {P : Facts} (hP : FactsOk P) {t u : Nat} (h : Sbt P t u) (ht : 3 ≤ t) : 3 ≤ u := by
  rcases Nat.lt_or_ge u 3 with g | g
  · exfalso
    revert ht g
    induction h using Sbt.ind with
    | rfl' => intro a b; omega
    | step f _ ih =>
      intro a b
      rcases hP.fit _ _ f with e | ⟨_, _, _, _, _, g2, _⟩
      · subst e; exact ih a b
      · exact ih (hP.ge _ _ _ g2) b
  · exact g
section
variable {P : Facts} {S S' : Sto} {μ μ' : Mp} {t u : Nat} {x : Int32} {v : Int64}
theorem VR.sub (hP : FactsOk P) (h : VR P S μ t x v) (hs : Sbt P t u) : VR P S μ u x v := by
  rcases h with ⟨h1, h2⟩ | ⟨h1, h2, h3, h4, h5⟩ | ⟨h1, h2, h3, h4, h5⟩
  · have := hs.lo hP h1
    subst this
    exact Or.inl ⟨h1, h2⟩
  · exact Or.inr (Or.inl ⟨hs.hi hP h1, h2, h3, h4.trans hs, h5⟩)
  · exact Or.inr (Or.inr ⟨hs.hi hP h1, h2, h3, h4.trans hs, h5⟩)
theorem VR.mono (hS : S.le S') (hm : MpLe S μ μ') (h : VR P S μ t x v) : VR P S' μ' t x v := by
  have h1 := hS.nf
  have h2 := hS.nk
  rcases h with h | ⟨g1, g2, g3, g4, g5⟩ | ⟨g1, g2, g3, g4, g5⟩
  · exact Or.inl h
  · exact Or.inr (Or.inl ⟨g1, g2, by omega, by rw [hS.ft _ g3]; exact g4, by rw [hm.1 _ g3]; exact g5⟩)
  · exact Or.inr (Or.inr ⟨g1, g2, by omega, by rw [hS.kt _ g3]; exact g4, by rw [hm.2 _ g3]; exact g5⟩)
theorem VR.base (h : VR P S μ t x v) (ht : t < 3) : x.toInt = v.toInt := by
  rcases h with ⟨_, h⟩ | ⟨h, _⟩ | ⟨h, _⟩
  · exact h
  · omega
  · omega
/-- the names that are seen -/
def SR (P : Facts) (S : Sto) (μ : Mp) (g : Nat → Int) (s : Nat → Int32) (see : Nat → Int64) : Prop := ∀ k, k < 10 → ∀ t : Nat, g k = t → VR P S μ t (s k) (see k)
theorem SR.mono {g : Nat → Int} {s : Nat → Int32} {see : Nat → Int64} (hS : S.le S') (hm : MpLe S μ μ') (h : SR P S μ g s see) : SR P S' μ' g s see := fun k hk t e => (h k hk t e).mono hS hm
theorem SR.congr {g : Nat → Int} {s s' : Nat → Int32} {see see' : Nat → Int64} (h : SR P S μ g s see) (hs : ∀ k, k < 10 → s' k = s k) (hv : ∀ k, k < 10 → see' k = see k) : SR P S μ g s' see' := fun k hk t e => by
  rw [hs k hk, hv k hk]
  exact h k hk t e
theorem SR.xenv {g : Nat → Int} {s s' : Nat → Int32} {see see' : Nat → Int64} {K : Nat} (h : SR P S μ g s see) (hs : ∀ k, k < 10 → k ≠ K → s' k = s k) (hv : ∀ k, k < 10 → k ≠ K → see' k = see k) (ht : VR P S μ t (s' K) (see' K)) : SR P S μ (env g K t) s' see' := fun k hk t' e => by
  unfold env at e
  by_cases q : k = K
  · subst q
    rw [if_pos rfl] at e
    have : t = t' := by omega
    subst this
    exact ht
  · rw [if_neg q] at e
    rw [hs k hk q, hv k hk q]
    exact h k hk t' e
end
/-- m lies k parts below n -/
def Dsc (A : Nat → Nat → Int32) : Nat → Nat → Nat → Prop
  | 0, n, m => n = m
  | k + 1, n, m => ∃ p, p ∈ parts A n ∧ Dsc A k p m
/-- no handler in n has more clauses than there are effects -/
def G8 (X : Cx) (n : Nat) : Prop := ∀ k m, Dsc X.A k n m → (X.A 5 m).toInt = 8 → (X.A 15 m).toInt ≤ 8
def Gd (X : Cx) (n : Nat) : Prop := Good X n ∧ G8 X n
theorem Gd.part {X : Cx} (hX : X.Ok) {n p : Nat} (h : Gd X n) (hp : p ∈ parts X.A n) : Gd X p ∧ (X.A 13 p).toInt < (X.A 13 n).toInt ∧ 1 ≤ (X.A 13 p).toInt := by
  obtain ⟨g1, g2, g3⟩ := h.1.part hX hp
  exact ⟨⟨g1, fun k m hd h8 => h.2 (k + 1) m ⟨p, hp, hd⟩ h8⟩, g2, g3⟩
theorem Gd.eight {X : Cx} {n : Nat} (h : Gd X n) (h8 : (X.A 5 n).toInt = 8) : (X.A 15 n).toInt ≤ 8 := h.2 0 n rfl h8
/-- what a node's code needs of the frame -/
def DpOk (X : Cx) (n h : Nat) : Prop := (h : Int) + (X.A 13 n).toInt ≤ 50
def sg2 (x : Int32) : Nat := if x.toInt < 3 then 0 else 1
/-- the next frame of the reference that a frame of the class stands for -/
def PF (X : Cx) (G : Nat → Int32) (S : Sto) (μ : Mp) (Q : Nat → (Nat → Int32) → Nat → Nat → List Fr → Nat → Nat → Prop) (r : Nat) (s : Nat → Int32) (h t : Nat) (Fs : List Fr) (u e : Nat) : Prop := ∃ (f : Fr) (F : List Fr) (n : Nat), Fs = f :: F ∧ f.node.toInt = n ∧ Gd X n ∧
       (((X.A 5 n).toInt = 4 ∧ ∃ (g : Nat → Int) (t0 u0 c m : Nat), SR X.P S μ g s f.see ∧ Sbt X.P t t0 ∧ Ty X.A X.P X.tk X.gv (env g (X.A 6 n).toInt.toNat t0) (X.A 10 n).toInt.toNat u0 ∧ cOp G r = 3 ∧ cFd G r 1 = X.A 6 n ∧ Cd X.A G c (X.A 10 n).toInt.toNat (r + 1) m ∧ cOp G m = 4 ∧ cFd G m 1 = X.A 6 n ∧ DpOk X (X.A 10 n).toInt.toNat (h + 1) ∧ Q (m + 1) s h u0 F u e) ∨
        ((X.A 5 n).toInt = 6 ∧ ∃ (g : Nat → Int) (u0 c m l : Nat), SR X.P S μ g s f.see ∧ t = 1 ∧ Ty X.A X.P X.tk X.gv g (X.A 10 n).toInt.toNat u0 ∧ Ty X.A X.P X.tk X.gv g (X.A 11 n).toInt.toNat u0 ∧ cOp G r = 6 ∧ cFd G r 1 = nI (m + 1) ∧ Cd X.A G c (X.A 10 n).toInt.toNat (r + 1) m ∧ cOp G m = 5 ∧ cFd G m 1 = nI l ∧ Cd X.A G c (X.A 11 n).toInt.toNat (m + 1) l ∧ DpOk X (X.A 10 n).toInt.toNat h ∧ DpOk X (X.A 11 n).toInt.toNat h ∧ Q l s h u0 F u e) ∨
        ((X.A 5 n).toInt = 9 ∧ f.stage = 0 ∧ ∃ (g : Nat → Int) (c m : Nat), SR X.P S μ g s f.see ∧ t = 0 ∧ Ty X.A X.P X.tk X.gv g (X.A 10 n).toInt.toNat 0 ∧ Cd X.A G c (X.A 10 n).toInt.toNat r m ∧ cOp G m = 7 ∧ cFd G m 1 = X.A 6 n ∧ DpOk X (X.A 10 n).toInt.toNat (h + 1) ∧ Q (m + 1) s h (sg2 (X.A 6 n)) F u e) ∨
        ((X.A 5 n).toInt = 9 ∧ f.stage ≠ 0 ∧ t = 0 ∧ 11 ≤ h ∧ cOp G r = 7 ∧ cFd G r 1 = X.A 6 n ∧ VR X.P S μ 0 (s (h - 1)) f.val ∧ Q (r + 1) s (h - 1) (sg2 (X.A 6 n)) F u e) ∨
        ((X.A 5 n).toInt = 10 ∧ f.stage = 0 ∧ ∃ (g : Nat → Int) (f0 a rr t2 c m : Nat), SR X.P S μ g s f.see ∧ Sbt X.P t f0 ∧ X.P.fn f0 a rr ∧ Ty X.A X.P X.tk X.gv g (X.A 10 n).toInt.toNat t2 ∧ X.P.fit t2 a ∧ Cd X.A G c (X.A 10 n).toInt.toNat r m ∧ cOp G m = 12 ∧ DpOk X (X.A 10 n).toInt.toNat (h + 1) ∧ Q (m + 1) s h rr F u e) ∨
        ((X.A 5 n).toInt = 10 ∧ f.stage ≠ 0 ∧ ∃ (f0 a rr : Nat), VR X.P S μ f0 (s (h - 1)) f.val ∧ X.P.fn f0 a rr ∧ Sbt X.P t a ∧ 11 ≤ h ∧ cOp G r = 12 ∧ Q (r + 1) s (h - 1) rr F u e) ∨
        ((X.A 5 n).toInt = 11 ∧ cOp G r = 13 ∧ cFd G r 1 = X.A 6 n ∧ Sbt X.P t (X.tk (X.A 6 n).toInt.toNat) ∧ Q (r + 1) s h (X.gv (X.A 6 n).toInt.toNat) F u e))
/-- a frame of the class, standing at row r, holding s up to h, awaits a t; it stands for the reference's frames Fs; it ends at the row e, with a u -/
def Pd (X : Cx) (G : Nat → Int32) (S : Sto) (μ : Mp) : Nat → Nat → (Nat → Int32) → Nat → Nat → List Fr → Nat → Nat → Prop
  | 0, _, _, _, _, _, _, _ => False
  | d + 1, r, s, h, t, Fs, u, e => (r ≤ 1700 ∧ 10 ≤ h ∧ h < 50) ∧
    ((Fs = [] ∧ h = 10 ∧ r = e ∧ Sbt X.P t u) ∨
     (∃ K, K < 10 ∧ cOp G r = 4 ∧ cFd G r 1 = nI K ∧ 11 ≤ h ∧ Pd X G S μ d (r + 1) (upd s K (s (h - 1))) (h - 1) t Fs u e) ∨
     (∃ r', cOp G r = 5 ∧ cFd G r 1 = nI r' ∧ r < r' ∧ Pd X G S μ d r' s h t Fs u e) ∨
     PF X G S μ (Pd X G S μ d) r s h t Fs u e)
section
variable {X : Cx} {G : Nat → Int32} {S S' : Sto} {μ μ' : Mp}
theorem Pd.bd {d r h t u : Nat} {s : Nat → Int32} {Fs : List Fr} {e : Nat} (p : Pd X G S μ d r s h t Fs u e) : r ≤ 1700 ∧ 10 ≤ h ∧ h < 50 := by
  cases d with
  | zero => exact p.elim
  | succ d => exact p.1
/-- only what lies below h counts -/
theorem Pd.cong : ∀ {d r h t u : Nat} {s s' : Nat → Int32} {Fs : List Fr} {e : Nat}, Pd X G S μ d r s h t Fs u e → (∀ j, j < h → s' j = s j) → Pd X G S μ d r s' h t Fs u e := by
  intro d
  induction d with
  | zero => intro r h t u s s' Fs e p _; exact p.elim
  | succ d ih =>
    intro r h t u s s' Fs e p hs
    obtain ⟨b, p⟩ := p
    have h10 := b.2.1
    have sr : ∀ {g : Nat → Int} {see : Nat → Int64}, SR X.P S μ g s see → SR X.P S μ g s' see := fun z => z.congr (fun k hk => hs k (by omega)) (fun _ _ => rfl)
    refine ⟨b, ?_⟩
    rcases p with p | ⟨K, p1, p2, p3, p4, p5⟩ | ⟨r', p1, p2, p3, p4⟩ | ⟨f, F, n, q1, q2, q3, p⟩
    · exact Or.inl p
    · refine Or.inr (Or.inl ⟨K, p1, p2, p3, p4, ih p5 (fun j hj => ?_)⟩)
      by_cases z : j = K
      · rw [z, upd_s, upd_s]; exact hs _ (by omega)
      · rw [upd_n z, upd_n z]; exact hs j (by omega)
    · exact Or.inr (Or.inr (Or.inl ⟨r', p1, p2, p3, ih p4 hs⟩))
    · refine Or.inr (Or.inr (Or.inr ⟨f, F, n, q1, q2, q3, ?_⟩))
      rcases p with ⟨k, g, t0, u0, c, m, a1, a2, a3, a4, a5, a6, a7, a8, a9, a10⟩ | ⟨k, g, u0, c, m, l, a1, a2, a3, a4, a5, a6, a7, a8, a9, a10, a11, a12, a13⟩ | ⟨k, k2, g, c, m, a1, a2, a3, a4, a5, a6, a7, a8⟩ | ⟨k, k2, a1, a2, a3, a4, a5, a6⟩ | ⟨k, k2, g, f0, a, rr, t2, c, m, a1, a2, a3, a4, a5, a6, a7, a8, a9⟩ | ⟨k, k2, f0, a, rr, a1, a2, a3, a4, a5, a6⟩ | ⟨k, a1, a2, a3, a4⟩
      · exact Or.inl ⟨k, g, t0, u0, c, m, sr a1, a2, a3, a4, a5, a6, a7, a8, a9, ih a10 hs⟩
      · exact Or.inr (Or.inl ⟨k, g, u0, c, m, l, sr a1, a2, a3, a4, a5, a6, a7, a8, a9, a10, a11, a12, ih a13 hs⟩)
      · exact Or.inr (Or.inr (Or.inl ⟨k, k2, g, c, m, sr a1, a2, a3, a4, a5, a6, a7, ih a8 hs⟩))
      · exact Or.inr (Or.inr (Or.inr (Or.inl ⟨k, k2, a1, a2, a3, a4, by rw [hs _ (by omega)]; exact a5, ih a6 (fun j hj => hs j (by omega))⟩)))
      · exact Or.inr (Or.inr (Or.inr (Or.inr (Or.inl ⟨k, k2, g, f0, a, rr, t2, c, m, sr a1, a2, a3, a4, a5, a6, a7, a8, ih a9 hs⟩))))
      · exact Or.inr (Or.inr (Or.inr (Or.inr (Or.inr (Or.inl ⟨k, k2, f0, a, rr, by rw [hs _ (by omega)]; exact a1, a2, a3, a4, a5, ih a6 (fun j hj => hs j (by omega))⟩)))))
      · exact Or.inr (Or.inr (Or.inr (Or.inr (Or.inr (Or.inr ⟨k, a1, a2, a3, ih a4 hs⟩)))))
theorem Pd.mono : ∀ {d r h t u : Nat} {s : Nat → Int32} {Fs : List Fr} {e : Nat}, Pd X G S μ d r s h t Fs u e → S.le S' → MpLe S μ μ' → Pd X G S' μ' d r s h t Fs u e := by
  intro d
  induction d with
  | zero => intro r h t u s Fs e p _ _; exact p.elim
  | succ d ih =>
    intro r h t u s Fs e p hS hm
    obtain ⟨b, p⟩ := p
    have sr : ∀ {g : Nat → Int} {see : Nat → Int64}, SR X.P S μ g s see → SR X.P S' μ' g s see := fun z => z.mono hS hm
    refine ⟨b, ?_⟩
    rcases p with p | ⟨K, p1, p2, p3, p4, p5⟩ | ⟨r', p1, p2, p3, p4⟩ | ⟨f, F, n, q1, q2, q3, p⟩
    · exact Or.inl p
    · exact Or.inr (Or.inl ⟨K, p1, p2, p3, p4, ih p5 hS hm⟩)
    · exact Or.inr (Or.inr (Or.inl ⟨r', p1, p2, p3, ih p4 hS hm⟩))
    · refine Or.inr (Or.inr (Or.inr ⟨f, F, n, q1, q2, q3, ?_⟩))
      rcases p with ⟨k, g, t0, u0, c, m, a1, a2, a3, a4, a5, a6, a7, a8, a9, a10⟩ | ⟨k, g, u0, c, m, l, a1, a2, a3, a4, a5, a6, a7, a8, a9, a10, a11, a12, a13⟩ | ⟨k, k2, g, c, m, a1, a2, a3, a4, a5, a6, a7, a8⟩ | ⟨k, k2, a1, a2, a3, a4, a5, a6⟩ | ⟨k, k2, g, f0, a, rr, t2, c, m, a1, a2, a3, a4, a5, a6, a7, a8, a9⟩ | ⟨k, k2, f0, a, rr, a1, a2, a3, a4, a5, a6⟩ | ⟨k, a1, a2, a3, a4⟩
      · exact Or.inl ⟨k, g, t0, u0, c, m, sr a1, a2, a3, a4, a5, a6, a7, a8, a9, ih a10 hS hm⟩
      · exact Or.inr (Or.inl ⟨k, g, u0, c, m, l, sr a1, a2, a3, a4, a5, a6, a7, a8, a9, a10, a11, a12, ih a13 hS hm⟩)
      · exact Or.inr (Or.inr (Or.inl ⟨k, k2, g, c, m, sr a1, a2, a3, a4, a5, a6, a7, ih a8 hS hm⟩))
      · exact Or.inr (Or.inr (Or.inr (Or.inl ⟨k, k2, a1, a2, a3, a4, a5.mono hS hm, ih a6 hS hm⟩)))
      · exact Or.inr (Or.inr (Or.inr (Or.inr (Or.inl ⟨k, k2, g, f0, a, rr, t2, c, m, sr a1, a2, a3, a4, a5, a6, a7, a8, ih a9 hS hm⟩))))
      · exact Or.inr (Or.inr (Or.inr (Or.inr (Or.inr (Or.inl ⟨k, k2, f0, a, rr, a1.mono hS hm, a2, a3, a4, a5, ih a6 hS hm⟩)))))
      · exact Or.inr (Or.inr (Or.inr (Or.inr (Or.inr (Or.inr ⟨k, a1, a2, a3, ih a4 hS hm⟩)))))
/-- a narrower value may come -/
theorem Pd.sub (hX : X.Ok) : ∀ {d r h t t' u : Nat} {s : Nat → Int32} {Fs : List Fr} {e : Nat}, Pd X G S μ d r s h t Fs u e → Sbt X.P t' t → Pd X G S μ d r s h t' Fs u e := by
  intro d
  induction d with
  | zero => intro r h t t' u s Fs e p _; exact p.elim
  | succ d ih =>
    intro r h t t' u s Fs e p hs
    obtain ⟨b, p⟩ := p
    have lo : ∀ {c : Nat}, c < 3 → t = c → t' = c := fun {c} hc z => by
      subst z
      rcases Nat.lt_or_ge t' 3 with g | g
      · exact hs.lo hX.fo g
      · have := hs.hi hX.fo g; omega
    refine ⟨b, ?_⟩
    rcases p with ⟨p1, p2, p3, p4⟩ | ⟨K, p1, p2, p3, p4, p5⟩ | ⟨r', p1, p2, p3, p4⟩ | ⟨f, F, n, q1, q2, q3, p⟩
    · exact Or.inl ⟨p1, p2, p3, hs.trans p4⟩
    · exact Or.inr (Or.inl ⟨K, p1, p2, p3, p4, ih p5 hs⟩)
    · exact Or.inr (Or.inr (Or.inl ⟨r', p1, p2, p3, ih p4 hs⟩))
    · refine Or.inr (Or.inr (Or.inr ⟨f, F, n, q1, q2, q3, ?_⟩))
      rcases p with ⟨k, g, t0, u0, c, m, a1, a2, a3, a4, a5, a6, a7, a8, a9, a10⟩ | ⟨k, g, u0, c, m, l, a1, a2, a3, a4, a5, a6, a7, a8, a9, a10, a11, a12, a13⟩ | ⟨k, k2, g, c, m, a1, a2, a3, a4, a5, a6, a7, a8⟩ | ⟨k, k2, a1, a2, a3, a4, a5, a6⟩ | ⟨k, k2, g, f0, a, rr, t2, c, m, a1, a2, a3, a4, a5, a6, a7, a8, a9⟩ | ⟨k, k2, f0, a, rr, a1, a2, a3, a4, a5, a6⟩ | ⟨k, a1, a2, a3, a4⟩
      · exact Or.inl ⟨k, g, t0, u0, c, m, a1, hs.trans a2, a3, a4, a5, a6, a7, a8, a9, a10⟩
      · exact Or.inr (Or.inl ⟨k, g, u0, c, m, l, a1, lo (by omega) a2, a3, a4, a5, a6, a7, a8, a9, a10, a11, a12, a13⟩)
      · exact Or.inr (Or.inr (Or.inl ⟨k, k2, g, c, m, a1, lo (by omega) a2, a3, a4, a5, a6, a7, a8⟩))
      · exact Or.inr (Or.inr (Or.inr (Or.inl ⟨k, k2, lo (by omega) a1, a2, a3, a4, a5, a6⟩)))
      · exact Or.inr (Or.inr (Or.inr (Or.inr (Or.inl ⟨k, k2, g, f0, a, rr, t2, c, m, a1, hs.trans a2, a3, a4, a5, a6, a7, a8, a9⟩))))
      · exact Or.inr (Or.inr (Or.inr (Or.inr (Or.inr (Or.inl ⟨k, k2, f0, a, rr, a1, a2, hs.trans a3, a4, a5, a6⟩)))))
      · exact Or.inr (Or.inr (Or.inr (Or.inr (Or.inr (Or.inr ⟨k, a1, a2, hs.trans a3, a4⟩)))))
end
end
