-- pure rows: HQ,HR
section
/-! pure rows: frames of the class against frames of the reference -/
/-- what ends a frame of the class: a mark, or a handler -/
def Bnd (X : Cx) (G : Nat → Int32) (S : Sto) (μ : Mp) (w : Vw) (Tv : Nat → Prop) (a : Nat) (b : Fr) (u0 u e : Nat) : Prop :=
  (b.node = -1 ∧ w.2.2 a 3 = none ∧ cOp G e = 0 ∧ Sbt X.P u0 u) ∨
  (∃ (n th l l' c : Nat) (g : Nat → Int) (t0 ub : Nat) (ks us : Nat → Nat), b.node.toInt = n ∧ Gd X n ∧ (X.A 5 n).toInt = 8 ∧ (cOp G e = 11 ∧ cFd G l 2 = nI (e + 1)) ∧ w.2.2 a 3 = some th ∧ Tv th ∧ w.2.1 th 1 = nI l ∧ Cd X.A G c n l l' ∧ l' ≤ 1700 ∧ SR X.P S μ g (w.1 th) b.see ∧ Sbt X.P u0 t0 ∧ Ty X.A X.P X.tk X.gv (env g (X.A 6 n).toInt.toNat t0) (X.A 10 n).toInt.toNat ub ∧
    (∀ q, (X.A 14 n).toInt.toNat ≤ q → q < (X.A 14 n).toInt.toNat + (X.A 15 n).toInt.toNat → X.P.fn (ks q) (X.gv (X.A 16 q).toInt.toNat) ub ∧ Ty X.A X.P X.tk X.gv (env (env g (X.A 17 q).toInt.toNat (X.tk (X.A 16 q).toInt.toNat)) (X.A 18 q).toInt.toNat (ks q)) (X.A 19 q).toInt.toNat (us q) ∧ X.P.fit (us q) ub) ∧ Sbt X.P ub u)
def Bk (X : Cx) (G : Nat → Int32) (S : Sto) (μ : Mp) (w : Vw) (Tv : Nat → Prop) (a r : Nat) (s : Nat → Int32) (h : Nat) (Fs : List Fr) (b : Fr) (t u : Nat) : Prop := ∃ (d u0 e : Nat), Pd X G S μ d r s h t Fs u0 e ∧ Bnd X G S μ w Tv a b u0 u e
/-- frames of the class, from the top, that all wait -/
def Bs (X : Cx) (G : Nat → Int32) (S : Sto) (μ : Mp) (w : Vw) (Tv : Nat → Prop) : List Nat → List Fr → Nat → Nat → Nat → Prop
  | [], rf, t, u, W => rf = [] ∧ Sbt X.P t u ∧ W = 0
  | a :: L, rf, t, u, W => ∃ (s : Nat → Int32) (h r : Nat) (Fs : List Fr) (b : Fr) (rest : List Fr) (u1 W1 : Nat), FSt w a s h r ∧ rf = Fs ++ b :: rest ∧ Bk X G S μ w Tv a r s h Fs b t u1 ∧ Bs X G S μ w Tv L rest u1 u W1 ∧ W + r = W1 + 1701
/-- what a thing is stays; it may only be gone -/
def SameT (w w' : Vw) (c : Nat) : Prop := (∀ j, w'.1 c j = w.1 c j) ∧ (∀ k, k ≠ 3 → w'.2.1 c k = w.2.1 c k) ∧ (∀ k, w'.2.2 c k = w.2.2 c k)
theorem Same.T {w w' : Vw} {c : Nat} (h : Same w w' c) : SameT w w' c := ⟨h.1, fun k _ => h.2.1 k, h.2.2⟩
section
variable {X : Cx} {G : Nat → Int32} {S S' : Sto} {μ μ' : Mp} {w w' : Vw} {Tv Tv' : Nat → Prop}
theorem Bnd.mono {a : Nat} {b : Fr} {u0 u : Nat} {e : Nat} (h : Bnd X G S μ w Tv a b u0 u e) (hS : S.le S') (hm : MpLe S μ μ') (ha : w'.2.2 a 3 = w.2.2 a 3) (ht : ∀ z, Tv z → SameT w w' z ∧ Tv' z) : Bnd X G S' μ' w' Tv' a b u0 u e := by
  rcases h with ⟨h1, h2, h3, h4⟩ | ⟨n, th, l, l', c, g, t0, ub, ks, us, a1, a2, a3, a4, a5, a6, a7, a8, a9, a10, a11⟩
  · exact Or.inl ⟨h1, by rw [ha]; exact h2, h3, h4⟩
  · obtain ⟨z1, z2⟩ := ht th a6
    exact Or.inr ⟨n, th, l, l', c, g, t0, ub, ks, us, a1, a2, a3, a4, by rw [ha]; exact a5, z2, by rw [z1.2.1 1 (by decide)]; exact a7, a8, a9, (a10.mono hS hm).congr (fun k _ => z1.1 k) (fun _ _ => rfl), a11⟩
theorem Bk.mono {a r h t u : Nat} {s : Nat → Int32} {Fs : List Fr} {b : Fr} (p : Bk X G S μ w Tv a r s h Fs b t u) (hS : S.le S') (hm : MpLe S μ μ') (ha : w'.2.2 a 3 = w.2.2 a 3) (ht : ∀ z, Tv z → SameT w w' z ∧ Tv' z) : Bk X G S' μ' w' Tv' a r s h Fs b t u := by
  obtain ⟨d, u0, e, p1, p2⟩ := p
  exact ⟨d, u0, e, p1.mono hS hm, p2.mono hS hm ha ht⟩
theorem Bk.sub (hX : X.Ok) {a r h t t' u : Nat} {s : Nat → Int32} {Fs : List Fr} {b : Fr} (p : Bk X G S μ w Tv a r s h Fs b t u) (hs : Sbt X.P t' t) : Bk X G S μ w Tv a r s h Fs b t' u := by
  obtain ⟨d, u0, e, p1, p2⟩ := p
  exact ⟨d, u0, e, p1.sub hX hs, p2⟩
theorem Bk.cong {a r h t u : Nat} {s s' : Nat → Int32} {Fs : List Fr} {b : Fr} (p : Bk X G S μ w Tv a r s h Fs b t u) (hs : ∀ j, j < h → s' j = s j) : Bk X G S μ w Tv a r s' h Fs b t u := by
  obtain ⟨d, u0, e, p1, p2⟩ := p
  exact ⟨d, u0, e, p1.cong hs, p2⟩
theorem Bs.mono : ∀ {L : List Nat} {rf : List Fr} {t u W : Nat}, Bs X G S μ w Tv L rf t u W → S.le S' → MpLe S μ μ' → (∀ c, c ∈ L → Same w w' c) → (∀ z, Tv z → SameT w w' z ∧ Tv' z) → Bs X G S' μ' w' Tv' L rf t u W := by
  intro L
  induction L with
  | nil => intro rf t u W h _ _ _ _; exact h
  | cons a L ih =>
    intro rf t u W h hS hm hL ht
    obtain ⟨s, hh, r, Fs, b, rest, u1, W1, h1, h2, h3, h4, h5⟩ := h
    have ha := hL a (by simp [si_1, si_2, sl_1, sl_2, sl_3, ai_1, ai_2, ai_3, ai_4, al_1, al_2, al_3, al_4, cp_1, cp_2, cp_3, cp_4])
    exact ⟨s, hh, r, Fs, b, rest, u1, W1, h1.same ha, h2, h3.mono hS hm (ha.2.2 3) ht, ih h4 hS hm (fun c hc => hL c (by simp [si_1, si_2, sl_1, sl_2, sl_3, ai_1, ai_2, ai_3, ai_4, al_1, al_2, al_3, al_4, cp_1, cp_2, cp_3, cp_4, hc])) ht, h5⟩
theorem Bs.sub (hX : X.Ok) {L : List Nat} {rf : List Fr} {t t' u W : Nat} (h : Bs X G S μ w Tv L rf t u W) (hs : Sbt X.P t' t) : Bs X G S μ w Tv L rf t' u W := by
  cases L with
  | nil => exact ⟨h.1, hs.trans h.2.1, h.2.2⟩
  | cons a L =>
    obtain ⟨s, hh, r, Fs, b, rest, u1, W1, h1, h2, h3, h4, h5⟩ := h
    exact ⟨s, hh, r, Fs, b, rest, u1, W1, h1, h2, h3.sub hX hs, h4, h5⟩
theorem Bs.app (hX : X.Ok) : ∀ {L1 L2 : List Nat} {r1 r2 : List Fr} {t u1 u W1 W2 : Nat}, Bs X G S μ w Tv L1 r1 t u1 W1 → Bs X G S μ w Tv L2 r2 u1 u W2 → Bs X G S μ w Tv (L1 ++ L2) (r1 ++ r2) t u (W1 + W2) := by
  intro L1
  induction L1 with
  | nil =>
    intro L2 r1 r2 t u1 u W1 W2 h g
    obtain ⟨rfl, h2, rfl⟩ := h
    rw [Nat.zero_add]
    exact g.sub hX h2
  | cons a L ih =>
    intro L2 r1 r2 t u1 u W1 W2 h g
    obtain ⟨s, hh, r, Fs, b, rest, v1, V1, h1, h2, h3, h4, h5⟩ := h
    refine ⟨s, hh, r, Fs, b, rest ++ r2, v1, V1 + W2, h1, by rw [h2]; simp [si_1, si_2, sl_1, sl_2, sl_3, ai_1, ai_2, ai_3, ai_4, al_1, al_2, al_3, al_4, cp_1, cp_2, cp_3, cp_4], h3, ih h4 g, by omega⟩
theorem Bs.spl : ∀ {L1 L2 : List Nat} {rf : List Fr} {t u W : Nat}, Bs X G S μ w Tv (L1 ++ L2) rf t u W → ∃ r1 r2 u1 W1 W2, rf = r1 ++ r2 ∧ Bs X G S μ w Tv L1 r1 t u1 W1 ∧ Bs X G S μ w Tv L2 r2 u1 u W2 ∧ W = W1 + W2 := by
  intro L1
  induction L1 with
  | nil =>
    intro L2 rf t u W h
    exact ⟨[], rf, t, 0, W, rfl, ⟨rfl, .rfl', rfl⟩, h, by omega⟩
  | cons a L ih =>
    intro L2 rf t u W h
    obtain ⟨s, hh, r, Fs, b, rest, v1, V1, h1, h2, h3, h4, h5⟩ := h
    obtain ⟨r1, r2, u1, W1, W2, g1, g2, g3, g4⟩ := ih h4
    have hr : r ≤ 1700 := by obtain ⟨_, _, _, p, _⟩ := h3; exact p.bd.1
    exact ⟨Fs ++ b :: r1, r2, u1, W1 + 1701 - r, W2, by rw [h2, g1]; simp [si_1, si_2, sl_1, sl_2, sl_3, ai_1, ai_2, ai_3, ai_4, al_1, al_2, al_3, al_4, cp_1, cp_2, cp_3, cp_4], ⟨s, hh, r, Fs, b, r1, v1, W1, h1, rfl, h3, g2, by omega⟩, g3, by omega⟩
/-- none weighs more than its rows -/
theorem Bs.le : ∀ {L : List Nat} {rf : List Fr} {t u W : Nat}, Bs X G S μ w Tv L rf t u W → W ≤ 1701 * L.length := by
  intro L
  induction L with
  | nil => intro rf t u W h; rw [h.2.2]; omega
  | cons a L ih =>
    intro rf t u W h
    obtain ⟨s, hh, r, Fs, b, rest, v1, V1, h1, h2, h3, h4, h5⟩ := h
    have := ih h4
    simp only [List.length_cons]
    omega
/-- the frames between two that count don't count -/
theorem Pd.nh : ∀ {d r h t u : Nat} {s : Nat → Int32} {Fs : List Fr} {e : Nat}, Pd X G S μ d r s h t Fs u e → ∀ f, f ∈ Fs → ∃ n : Nat, f.node.toInt = n ∧ Gd X n ∧ (X.A 5 n).toInt ≠ 8 := by
  intro d
  induction d with
  | zero => intro r h t u s Fs e p; exact p.elim
  | succ d ih =>
    intro r h t u s Fs e p f hf
    obtain ⟨b, p⟩ := p
    rcases p with ⟨p1, -⟩ | ⟨K, p1, p2, p3, p4, p5⟩ | ⟨r', p1, p2, p3, p4⟩ | ⟨f', F, n, q1, q2, q3, p⟩
    · rw [p1] at hf; cases hf
    · exact ih p5 f hf
    · exact ih p4 f hf
    · rw [q1] at hf
      rcases p with ⟨k, g, t0, u0, c, m, a1, a2, a3, a4, a5, a6, a7, a8, a9, a10⟩ | ⟨k, g, u0, c, m, l, a1, a2, a3, a4, a5, a6, a7, a8, a9, a10, a11, a12, a13⟩ | ⟨k, k2, g, c, m, a1, a2, a3, a4, a5, a6, a7, a8⟩ | ⟨k, k2, a1, a2, a3, a4, a5, a6⟩ | ⟨k, k2, g, f0, a, rr, t2, c, m, a1, a2, a3, a4, a5, a6, a7, a8, a9⟩ | ⟨k, k2, f0, a, rr, a1, a2, a3, a4, a5, a6⟩ | ⟨k, a1, a2, a3, a4⟩
      all_goals rcases List.mem_cons.mp hf with rfl | hf
      all_goals first | exact ⟨n, q2, q3, by omega⟩ | exact ih (by assumption) f hf
end
end
section
/-! pure rows: the reference's machine, its frames as a list -/
def rfs (σ : mSt) : Nat → List Fr
  | 0 => []
  | F + 1 => frm σ F :: rfs σ F
def kfs (σ : mSt) (f : Nat) : Nat → List Fr
  | 0 => []
  | m + 1 => kfr σ (f + m) :: kfs σ f m
theorem rfs_c {σ σ' : mSt} : ∀ {F : Nat}, (∀ i, i < F → frm σ' i = frm σ i) → rfs σ' F = rfs σ F := by
  intro F
  induction F with
  | zero => intro _; rfl
  | succ F ih =>
    intro h
    unfold rfs
    rw [h F (by omega), ih (fun i hi => h i (by omega))]
theorem kfs_c {σ σ' : mSt} {f : Nat} : ∀ {m : Nat}, (∀ i, f ≤ i → i < f + m → kfr σ' i = kfr σ i) → kfs σ' f m = kfs σ f m := by
  intro m
  induction m with
  | zero => intro _; rfl
  | succ m ih =>
    intro h
    unfold kfs
    rw [h (f + m) (by omega) (by omega), ih (fun i h1 h2 => h i h1 (by omega))]
theorem rfs_len {σ : mSt} : ∀ {F : Nat}, (rfs σ F).length = F := by
  intro F
  induction F with
  | zero => rfl
  | succ F ih => unfold rfs; rw [List.length_cons, ih]
theorem kfs_len {σ : mSt} {f : Nat} : ∀ {m : Nat}, (kfs σ f m).length = m := by
  intro m
  induction m with
  | zero => rfl
  | succ m ih => unfold kfs; rw [List.length_cons, ih]
theorem rfs_mem {σ : mSt} {f : Fr} : ∀ {F : Nat}, f ∈ rfs σ F → ∃ i, i < F ∧ f = frm σ i := by
  intro F
  induction F with
  | zero => intro h; cases h
  | succ F ih =>
    intro h
    unfold rfs at h
    rcases List.mem_cons.mp h with h | h
    · exact ⟨F, by omega, h⟩
    · obtain ⟨i, h1, h2⟩ := ih h
      exact ⟨i, by omega, h2⟩
/-- frames that were copied from the kept -/
theorem rfs_go {σ σ' : mSt} {F q : Nat} : ∀ {m : Nat}, (∀ i, frm σ' i = if F ≤ i ∧ i < F + m then kfr σ (q + (i - F)) else frm σ i) → ∀ j, j ≤ m → rfs σ' (F + j) = kfs σ q j ++ rfs σ F := by
  intro m h j
  induction j with
  | zero =>
    intro _
    show rfs σ' F = _
    exact rfs_c (fun i hi => by rw [h i, if_neg (by omega)])
  | succ j ih =>
    intro hj
    show frm σ' (F + j) :: rfs σ' (F + j) = _
    rw [ih (by omega), h (F + j), if_pos (by omega), show F + j - F = j by omega]
    rfl
/-- frames that are kept -/
theorem kfs_keep {σ σ' : mSt} {K h : Nat} : ∀ {m : Nat}, (∀ i, kfr σ' i = if K ≤ i ∧ i < K + m then frm σ (h + (i - K)) else kfr σ i) → ∀ j, j ≤ m → kfs σ' K j ++ rfs σ h = rfs σ (h + j) := by
  intro m hk j
  induction j with
  | zero => intro _; rfl
  | succ j ih =>
    intro hj
    show (kfr σ' (K + j) :: kfs σ' K j) ++ rfs σ h = frm σ (h + j) :: rfs σ (h + j)
    rw [← ih (by omega), hk (K + j), if_pos (by omega), show K + j - K = j by omega]
    rfl
theorem rfs_split {σ : mSt} {h : Nat} : ∀ {F : Nat}, h < F → ∃ r1, rfs σ F = r1 ++ frm σ h :: rfs σ h ∧ (∀ f, f ∈ r1 → ∃ i, h < i ∧ i < F ∧ f = frm σ i) ∧ r1.length + h + 1 = F := by
  intro F
  induction F with
  | zero => intro hh; omega
  | succ F ih =>
    intro hh
    by_cases q : h = F
    · subst q
      exact ⟨[], rfl, (fun f hf => by cases hf), by rw [List.length_nil]; omega⟩
    · obtain ⟨r1, e1, e2, e3⟩ := ih (by omega)
      refine ⟨frm σ F :: r1, ?_, fun f hf => ?_, by rw [List.length_cons]; omega⟩
      · show frm σ F :: rfs σ F = _
        rw [e1]; rfl
      · rcases List.mem_cons.mp hf with g | g
        · exact ⟨F, by omega, by omega, g⟩
        · obtain ⟨i, i1, i2, i3⟩ := e2 f g
          exact ⟨i, i1, by omega, i3⟩
/-- what the store of functions and continuations holds stays -/
def HpE (σ σ' : mSt) : Prop := (∀ k, k = 56 ∨ k = 61 ∨ k = 62 → σ'.1 k = σ.1 k) ∧ (∀ k, 54 ≤ k → σ'.2.2.1 k = σ.2.2.1 k) ∧ (∀ k, 54 ≤ k → σ'.2.2.2 k = σ.2.2.2 k)
theorem HpE.f {σ σ' : mSt} (self : HpE σ σ') : ∀ k, k = 56 ∨ k = 61 ∨ k = 62 → σ'.1 k = σ.1 k := self.1
theorem HpE.a {σ σ' : mSt} (self : HpE σ σ') : ∀ k, 54 ≤ k → σ'.2.2.1 k = σ.2.2.1 k := self.2.1
theorem HpE.al {σ σ' : mSt} (self : HpE σ σ') : ∀ k, 54 ≤ k → σ'.2.2.2 k = σ.2.2.2 k := self.2.2
theorem HpE.rfl' {σ : mSt} : HpE σ σ := ⟨fun _ _ => rfl, fun _ _ => rfl, fun _ _ => rfl⟩
theorem HpE.trans {σ σ1 σ2 : mSt} (h : HpE σ σ1) (g : HpE σ1 σ2) : HpE σ σ2 := ⟨fun k hk => (g.f k hk).trans (h.f k hk), fun k hk => (g.a k hk).trans (h.a k hk), fun k hk => (g.al k hk).trans (h.al k hk)⟩
/-- the first clause of a handler for an effect -/
def Hit (X : Cx) (e : Int32) (f : Fr) (n q : Nat) : Prop := f.node.toInt = n ∧ n < X.N ∧ (X.A 5 n).toInt = 8 ∧ (X.A 14 n).toInt.toNat ≤ q ∧ q < (X.A 14 n).toInt.toNat + (X.A 15 n).toInt.toNat ∧ X.A 16 q = e ∧ ∀ q', (X.A 14 n).toInt.toNat ≤ q' → q' < q → X.A 16 q' ≠ e
def Mis (X : Cx) (e : Int32) (f : Fr) : Prop := f.node = -1 ∨ ∃ n : Nat, f.node.toInt = n ∧ n < X.N ∧ ((X.A 5 n).toInt = 8 → ∀ q, (X.A 14 n).toInt.toNat ≤ q → q < (X.A 14 n).toInt.toNat + (X.A 15 n).toInt.toNat → X.A 16 q ≠ e)
theorem clauseOf_7_x {X : Cx} (hX : X.Ok) {σ : mSt} (arr : Arr X σ) {nd : Nat} (hnd : nd < X.N) (h8 : (X.A 5 nd).toInt = 8) {x1 x2 : Int32} (hx1 : x1.toInt = nd) : ∀ (m n j : Nat) (x3 : Int32), x3.toInt = j → (X.A 14 nd).toInt.toNat ≤ j → j + m = (X.A 14 nd).toInt.toNat + (X.A 15 nd).toInt.toNat → m < n → (∀ q', (X.A 14 nd).toInt.toNat ≤ q' → q' < j → X.A 16 q' ≠ x2) →
    ((F_Mo_clauseOf_7 n σ x1 x2 x3).1 = -1 ∧ (∀ q, (X.A 14 nd).toInt.toNat ≤ q → q < (X.A 14 nd).toInt.toNat + (X.A 15 nd).toInt.toNat → X.A 16 q ≠ x2)) ∨ ∃ qq : Nat, (F_Mo_clauseOf_7 n σ x1 x2 x3).1.toInt = qq ∧ (∀ q', (X.A 14 nd).toInt.toNat ≤ q' → q' < qq → X.A 16 q' ≠ x2) := by
  intro m
  have cf := hX.cf nd hnd h8
  have hC' := hX.hC
  have hN := hX.hN
  have e1 : x1.toNatClampNeg = nd := by show x1.toInt.toNat = nd; omega
  have E : ∀ k, 5 ≤ k → k ≤ 19 → ∀ i, i < bnd X k → σ.2.2.1 k i = X.A k i := arr
  have hC := hX.hC
  induction m with
  | zero =>
    intro n j x3 hj h14 hm hn hno
    obtain ⟨n, rfl⟩ : ∃ k, n = k + 1 := ⟨n - 1, by omega⟩
    have hle : X.A 14 nd + X.A 15 nd ≤ x3 := by clear arr E hno; ((try (simp only [vp_in, Int32.toNatClampNeg, Int32.lt_iff_toInt_lt, Int32.le_iff_toInt_le, ← Int32.toInt_inj, Int32.toInt_add, Int32.toInt_sub, Int32.toInt_mul, Int32.reduceToInt, i32_neg1, Nat.reducePow, Int.reducePow, ne_eq, ge_iff_le, gt_iff_lt] at *)) <;> (first | omega | ((simp (disch := omega) only [bm32] at *) <;> omega)))
    simp only [F_Mo_clauseOf_7, e1, E 14 (by omega) (by omega) nd hnd, E 15 (by omega) (by omega) nd hnd, if_pos hle]
    exact Or.inl ⟨trivial, fun q h1 h2 => hno q h1 (by omega)⟩
  | succ m ih =>
    intro n j x3 hj h14 hm hn hno
    obtain ⟨n, rfl⟩ : ∃ k, n = k + 1 := ⟨n - 1, by omega⟩
    have hle : ¬ X.A 14 nd + X.A 15 nd ≤ x3 := by clear arr E ih hno; ((try (simp only [vp_in, Int32.toNatClampNeg, Int32.lt_iff_toInt_lt, Int32.le_iff_toInt_le, ← Int32.toInt_inj, Int32.toInt_add, Int32.toInt_sub, Int32.toInt_mul, Int32.reduceToInt, i32_neg1, Nat.reducePow, Int.reducePow, ne_eq, ge_iff_le, gt_iff_lt] at *)) <;> (first | omega | ((simp (disch := omega) only [bm32] at *) <;> omega)))
    have e3 : x3.toNatClampNeg = j := by show x3.toInt.toNat = j; omega
    simp only [F_Mo_clauseOf_7, e1, E 14 (by omega) (by omega) nd hnd, E 15 (by omega) (by omega) nd hnd, if_neg hle, e3, E 16 (by omega) (by omega) j (show j < X.C by omega)]
    by_cases he : X.A 16 j = x2
    · simp only [if_pos he]
      exact Or.inr ⟨j, hj, hno⟩
    · simp only [if_neg he]
      have i3 : (x3 + 1).toInt = (j + 1 : Nat) := by clear arr E ih hno; ((try (simp only [vp_in, Int32.toNatClampNeg, Int32.lt_iff_toInt_lt, Int32.le_iff_toInt_le, ← Int32.toInt_inj, Int32.toInt_add, Int32.toInt_sub, Int32.toInt_mul, Int32.reduceToInt, i32_neg1, Nat.reducePow, Int.reducePow, ne_eq, ge_iff_le, gt_iff_lt] at *)) <;> (first | omega | ((simp (disch := omega) only [bm32] at *) <;> omega)))
      exact ih n (j + 1) (x3 + 1) i3 (by omega) (by omega) (by omega) (fun q' h1 h2 => by
        by_cases z : q' = j
        · rw [z]; exact he
        · exact hno q' h1 (by omega))
theorem clauseOf_x {X : Cx} (hX : X.Ok) {σ : mSt} (arr : Arr X σ) {nd : Nat} (hnd : nd < X.N) (h8 : (X.A 5 nd).toInt = 8) {f : Fr} {e : Int32} (hx1 : f.node.toInt = nd) {n : Nat} (hn : 50 ≤ n) :
    (F_Mo_clauseOf n σ f.node e).2 = σ ∧ (((F_Mo_clauseOf n σ f.node e).1 = -1 ∧ Mis X e f) ∨ ∃ qq : Nat, (F_Mo_clauseOf n σ f.node e).1.toInt = qq ∧ Hit X e f nd qq) := by
  obtain ⟨-, o2, o⟩ := clauseOf_ok hX arr hnd h8 (x1 := f.node) (x2 := e) hx1 hn
  have cf := hX.cf nd hnd h8
  have hC' := hX.hC
  have e1 : f.node.toNatClampNeg = nd := by show f.node.toInt.toNat = nd; omega
  have e14 : σ.2.2.1 14 nd = X.A 14 nd := arr 14 (by omega) (by omega) nd hnd
  have x := clauseOf_7_x hX arr hnd h8 (x1 := f.node) (x2 := e) hx1 (X.A 15 nd).toInt.toNat n (X.A 14 nd).toInt.toNat (X.A 14 nd) (Int.toNat_of_nonneg cf.1).symm (Nat.le_refl _) rfl (by omega) (fun q' h1 h2 => by omega)
  have ef : F_Mo_clauseOf n σ f.node e = F_Mo_clauseOf_7 n σ f.node e (X.A 14 nd) := by unfold F_Mo_clauseOf; rw [e1, e14]
  rw [← ef] at x
  refine ⟨o2, ?_⟩
  rcases o with o | ⟨qq, p1, p2, p3, p4⟩
  · rcases x with ⟨x1, x2⟩ | ⟨q2, x1, x2⟩
    · exact Or.inl ⟨o, Or.inr ⟨nd, hx1, hnd, fun _ => x2⟩⟩
    · rw [o] at x1; simp only [i32_neg1] at x1; omega
  · rcases x with ⟨x1, x2⟩ | ⟨q2, x1, x2⟩
    · rw [x1] at p1; simp only [i32_neg1] at p1; omega
    · have : q2 = qq := by omega
      subst this
      exact Or.inr ⟨q2, p1, hx1, hnd, h8, p2, p3, p4, x2⟩
/-- the search for a handler -/
theorem performs_12_x {X : Cx} (hX : X.Ok) {σ : mSt} (arr : Arr X σ) {F : Nat} (hF : F ≤ 17000) (nodes : ∀ i, i < F → (frm σ i).node = -1 ∨ ∃ nd : Nat, (frm σ i).node.toInt = nd ∧ nd < X.N) {x1 : Int32} : ∀ (j n : Nat) (x2 x3 : Int32), j ≤ F → x2.toInt = j - 1 → x3.toInt = cnt X.A (frm σ) j (F - j) → j + 60 < n → (∀ i, j ≤ i → i < F → Mis X x1 (frm σ i)) →
    ((F_Mo_performs_12 n σ x1 x2 x3 (-1)).2.2.2.2 = -1 ∧ ∀ i, i < F → Mis X x1 (frm σ i)) ∨ (∃ h nd qq : Nat, h < F ∧ (F_Mo_performs_12 n σ x1 x2 x3 (-1)).2.2.1.toInt = h ∧ (F_Mo_performs_12 n σ x1 x2 x3 (-1)).2.2.2.2.toInt = qq ∧ Hit X x1 (frm σ h) nd qq ∧ ∀ i, h < i → i < F → Mis X x1 (frm σ i)) := by
  intro j
  have hN := hX.hN
  have E : ∀ k, 5 ≤ k → k ≤ 19 → ∀ i, i < bnd X k → σ.2.2.1 k i = X.A k i := arr
  have hC := hX.hC
  induction j with
  | zero =>
    intro n x2 x3 hj h2 h3 hn hm
    obtain ⟨n, rfl⟩ : ∃ k, n = k + 1 := ⟨n - 1, by omega⟩
    have hlt : x2 < 0 := by clear arr E nodes h3 hm; ((try (simp only [vp_in, Int32.toNatClampNeg, Int32.lt_iff_toInt_lt, Int32.le_iff_toInt_le, ← Int32.toInt_inj, Int32.toInt_add, Int32.toInt_sub, Int32.toInt_mul, Int32.reduceToInt, i32_neg1, Nat.reducePow, Int.reducePow, ne_eq, ge_iff_le, gt_iff_lt] at *)) <;> (first | omega | ((simp (disch := omega) only [bm32] at *) <;> omega)))
    simp only [F_Mo_performs_12, if_pos hlt]
    exact Or.inl ⟨trivial, fun i hi => hm i (by omega) hi⟩
  | succ h ih =>
    intro n x2 x3 hj h2 h3 hn hm
    obtain ⟨n, rfl⟩ : ∃ k, n = k + 1 := ⟨n - 1, by omega⟩
    have hlt : ¬ x2 < 0 := by clear arr E nodes h3 ih hm; ((try (simp only [vp_in, Int32.toNatClampNeg, Int32.lt_iff_toInt_lt, Int32.le_iff_toInt_le, ← Int32.toInt_inj, Int32.toInt_add, Int32.toInt_sub, Int32.toInt_mul, Int32.reduceToInt, i32_neg1, Nat.reducePow, Int.reducePow, ne_eq, ge_iff_le, gt_iff_lt] at *)) <;> (first | omega | ((simp (disch := omega) only [bm32] at *) <;> omega)))
    have e2 : x2.toNatClampNeg = h := by show x2.toInt.toNat = h; omega
    have i2 : (x2 + (-1)).toInt = h - 1 := by clear arr E nodes h3 ih hm; ((try (simp only [vp_in, Int32.toNatClampNeg, Int32.lt_iff_toInt_lt, Int32.le_iff_toInt_le, ← Int32.toInt_inj, Int32.toInt_add, Int32.toInt_sub, Int32.toInt_mul, Int32.reduceToInt, i32_neg1, Nat.reducePow, Int.reducePow, ne_eq, ge_iff_le, gt_iff_lt] at *)) <;> (first | omega | ((simp (disch := omega) only [bm32] at *) <;> omega)))
    have hcl := cnt_le (A := X.A) (get := frm σ) (lo := h + 1) (m := F - (h + 1))
    have i3 : (x3 + 1).toInt = x3.toInt + 1 := by clear arr E nodes ih hm; ((try (simp only [vp_in, Int32.toNatClampNeg, Int32.lt_iff_toInt_lt, Int32.le_iff_toInt_le, ← Int32.toInt_inj, Int32.toInt_add, Int32.toInt_sub, Int32.toInt_mul, Int32.reduceToInt, i32_neg1, Nat.reducePow, Int.reducePow, ne_eq, ge_iff_le, gt_iff_lt] at *)) <;> (first | omega | ((simp (disch := omega) only [bm32] at *) <;> omega)))
    have cl : cnt X.A (frm σ) h (F - h) = ctd X.A (frm σ h).node + cnt X.A (frm σ) (h + 1) (F - (h + 1)) := by
      rw [show F - h = (F - (h + 1)) + 1 by omega]; exact cnt_left
    have hnode : σ.2.2.1 40 h = (frm σ h).node := rfl
    have sc : F_Mo_counted σ x2 = (if ctd X.A (frm σ h).node = 1 then 1 else 0, σ) := by
      simp only [F_Mo_counted, e2, hnode]
      rcases nodes h (by omega) with hm | ⟨nd, hnd, hndN⟩
      · simp only [if_pos hm, ctd, if_true]
      · obtain ⟨_, _, ne, en1, _⟩ := ctd_of (X := X) hnd
        simp only [if_neg ne, en1, E 5 (by omega) (by omega) nd hndN, ctd]
        by_cases h8 : X.A 5 nd = 8
        · simp only [if_pos h8, if_true]
        · simp (decide := true) only [if_neg h8, if_false]
    have i3' : (if ctd X.A (frm σ h).node = 1 then x3 + 1 else x3).toInt = cnt X.A (frm σ) h (F - h) := by
      rw [cl]
      have := ctd_le X.A (frm σ h).node
      by_cases hc : ctd X.A (frm σ h).node = 1
      · rw [if_pos hc, hc]; omega
      · rw [if_neg hc]; omega
    have more : Mis X x1 (frm σ h) → ∀ i, h ≤ i → i < F → Mis X x1 (frm σ i) := fun z i h1 h2 => by
      by_cases q : i = h
      · rw [q]; exact z
      · exact hm i (by omega) h2
    have go := fun z => ih n (x2 + (-1)) (if ctd X.A (frm σ h).node = 1 then x3 + 1 else x3) (by omega) i2 i3' (by omega) (more z)
    simp only [F_Mo_performs_12, if_neg hlt, if_true, mbind_eq, sc, e2, hnode]
    rcases nodes h (by omega) with hmk | ⟨nd, hnd, hndN⟩
    · have hc : ctd X.A (frm σ h).node = 1 := by rw [hmk]; rfl
      have g := go (Or.inl hmk)
      rw [if_pos hc] at g
      simp (decide := true) only [if_pos hc, if_false, if_pos hmk]
      exact g
    · obtain ⟨ct, _, ne, en1, _⟩ := ctd_of (X := X) hnd
      by_cases h8 : X.A 5 nd = 8
      · have h8' : (X.A 5 nd).toInt = 8 := by rw [h8]; rfl
        have hc : ctd X.A (frm σ h).node = 1 := by rw [ct, if_pos h8']
        simp (decide := true) only [if_pos hc, if_false, if_neg ne, en1, E 5 (by omega) (by omega) nd hndN, if_pos h8]
        obtain ⟨f2, o⟩ := clauseOf_x hX arr hndN h8' (f := frm σ h) (e := x1) hnd (n := n) (by omega)
        generalize F_Mo_clauseOf n σ (frm σ h).node x1 = wq at *
        obtain ⟨wq, wσ⟩ := wq
        simp only at f2 o ⊢
        subst f2
        rcases o with ⟨o, om⟩ | ⟨qq, o1, oh⟩
        · subst o
          have g := go om
          rw [if_pos hc] at g
          simp only [if_true]
          exact g
        · have hq : ¬ wq = -1 := by intro hh; rw [hh] at o1; simp only [i32_neg1] at o1; omega
          simp only [if_neg hq]
          obtain ⟨n, rfl⟩ : ∃ k, n = k + 1 := ⟨n - 1, by omega⟩
          simp only [F_Mo_performs_12, if_neg hlt, if_neg hq]
          exact Or.inr ⟨h, nd, qq, by omega, by omega, o1, oh, fun i h1 h2 => hm i (by omega) h2⟩
      · have h8' : ¬ (X.A 5 nd).toInt = 8 := by intro hh; apply h8; clear arr E nodes ih h3 sc i3' go more hm; ((try (simp only [vp_in, Int32.toNatClampNeg, Int32.lt_iff_toInt_lt, Int32.le_iff_toInt_le, ← Int32.toInt_inj, Int32.toInt_add, Int32.toInt_sub, Int32.toInt_mul, Int32.reduceToInt, i32_neg1, Nat.reducePow, Int.reducePow, ne_eq, ge_iff_le, gt_iff_lt] at *)) <;> (first | omega | ((simp (disch := omega) only [bm32] at *) <;> omega)))
        have hc : ¬ ctd X.A (frm σ h).node = 1 := by rw [ct, if_neg h8']; omega
        have g := go (Or.inr ⟨nd, hnd, hndN, fun z => absurd z h8'⟩)
        rw [if_neg hc] at g
        simp (decide := true) only [if_neg hc, if_true, if_neg ne, en1, E 5 (by omega) (by omega) nd hndN, if_neg h8]
        exact g
end
