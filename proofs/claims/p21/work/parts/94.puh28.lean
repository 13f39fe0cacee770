-- pure rows: II
section
/-! pure rows: the handler that is found, by class and reference -/
theorem spl3 {α : Type} : ∀ {Fs r1 : List α} {bd f : α} {rest r2 : List α}, Fs ++ bd :: rest = r1 ++ f :: r2 → (∃ z, Fs = r1 ++ f :: z) ∨ (Fs = r1 ∧ bd = f ∧ rest = r2) ∨ (∃ z, r1 = Fs ++ bd :: z ∧ rest = z ++ f :: r2) := by
  intro Fs
  induction Fs with
  | nil =>
    intro r1 bd f rest r2 h
    cases r1 with
    | nil =>
      simp only [List.nil_append, List.cons.injEq] at h
      exact Or.inr (Or.inl ⟨rfl, h.1, h.2⟩)
    | cons x r1 =>
      simp only [List.nil_append, List.cons_append, List.cons.injEq] at h
      exact Or.inr (Or.inr ⟨r1, by rw [h.1]; rfl, h.2⟩)
  | cons y Fs ih =>
    intro r1 bd f rest r2 h
    cases r1 with
    | nil =>
      simp only [List.nil_append, List.cons_append, List.cons.injEq] at h
      exact Or.inl ⟨Fs, by rw [h.1]; rfl⟩
    | cons x r1 =>
      simp only [List.cons_append, List.cons.injEq] at h
      obtain ⟨h1, h2⟩ := h
      subst h1
      rcases ih h2 with ⟨z, q⟩ | ⟨q1, q2, q3⟩ | ⟨z, q1, q2⟩
      · exact Or.inl ⟨z, by rw [q]; rfl⟩
      · exact Or.inr (Or.inl ⟨by rw [q1], q2, q3⟩)
      · exact Or.inr (Or.inr ⟨z, by rw [q1]; rfl, q2⟩)
theorem fcase_min {g : Nat → Int32} {l : Nat} {e : Int32} : ∀ {d j q : Nat}, fcase g l e d j = some q → ∀ y, j ≤ y → y < q → cFd g (l + 1 + y) 1 ≠ e := by
  intro d
  induction d with
  | zero => intro j q h; cases h
  | succ d ih =>
    intro j q h y h1 h2
    unfold fcase at h
    by_cases c : cFd g (l + 1 + j) 1 = e
    · rw [if_pos c] at h
      cases h
      omega
    · rw [if_neg c] at h
      by_cases z : y = j
      · rw [z]; exact c
      · exact ih h y (by omega) h2
/-- how many frames count -/
def cntL (A : Nat → Nat → Int32) : List Fr → Nat
  | [] => 0
  | f :: F => ctd A f.node + cntL A F
theorem cntL_app {A : Nat → Nat → Int32} : ∀ {F1 F2 : List Fr}, cntL A (F1 ++ F2) = cntL A F1 + cntL A F2 := by
  intro F1
  induction F1 with
  | nil => intro F2; show cntL A F2 = 0 + cntL A F2; omega
  | cons f F ih =>
    intro F2
    show ctd A f.node + cntL A (F ++ F2) = ctd A f.node + cntL A F + cntL A F2
    rw [ih]; omega
theorem cntL_rfs {A : Nat → Nat → Int32} {σ : mSt} {h : Nat} : ∀ {j : Nat} {r1 : List Fr}, rfs σ (h + j) = r1 ++ rfs σ h → cntL A r1 = cnt A (frm σ) h j := by
  intro j
  induction j with
  | zero =>
    intro r1 e
    have : r1 = [] := by
      have := congrArg List.length e
      rw [List.length_append] at this
      have h0 : r1.length = 0 := by rw [show h + 0 = h from rfl] at this; omega
      exact List.eq_nil_of_length_eq_zero h0
    rw [this]; rfl
  | succ j ih =>
    intro r1 e
    cases r1 with
    | nil =>
      exfalso
      have := congrArg List.length e
      rw [List.nil_append, rfs_len, rfs_len] at this
      omega
    | cons x r1 =>
      have e' : frm σ (h + j) :: rfs σ (h + j) = x :: (r1 ++ rfs σ h) := e
      simp only [List.cons.injEq] at e'
      show ctd A x.node + cntL A r1 = cnt A (frm σ) h j + ctd A (frm σ (h + j)).node
      rw [ih e'.2, ← e'.1]
      omega
section
variable {X : Cx} {G : Nat → Int32} {S S' : Sto} {μ μ' : Mp} {w w' : Vw} {Tv Tv' : Nat → Prop} {e : Int32}
theorem ctd_mark {x : Int32} (h : x = -1) : ctd X.A x = 1 := by rw [h]; rfl
theorem Pd.cnt {d r h t u q : Nat} {s : Nat → Int32} {Fs : List Fr} (p : Pd X G S μ d r s h t Fs u q) : cntL X.A Fs = 0 := by
  have nh := p.nh
  clear p
  induction Fs with
  | nil => rfl
  | cons f F ih =>
    obtain ⟨n, n1, n2, n3⟩ := nh f (by simp [si_1, si_2, sl_1, sl_2, sl_3, ai_1, ai_2, ai_3, ai_4, al_1, al_2, al_3, al_4, cp_1, cp_2, cp_3, cp_4])
    show ctd X.A f.node + cntL X.A F = 0
    rw [ih (fun z hz => nh z (by simp [si_1, si_2, sl_1, sl_2, sl_3, ai_1, ai_2, ai_3, ai_4, al_1, al_2, al_3, al_4, cp_1, cp_2, cp_3, cp_4, hz])), (ctd_of (X := X) n1).1, if_neg n3]
theorem Bnd.cnt {a u0 u q : Nat} {b : Fr} (h : Bnd X G S μ w Tv a b u0 u q) : ctd X.A b.node = 1 := by
  rcases h with ⟨h1, -⟩ | ⟨n, th, l, l', c, g, t0, ub, ks, us, a1, a2, a3, -⟩
  · exact ctd_mark h1
  · rw [(ctd_of (X := X) a1).1, if_pos a3]
theorem Bs.cnt : ∀ {L : List Nat} {rf : List Fr} {t u W : Nat}, Bs X G S μ w Tv L rf t u W → cntL X.A rf = L.length := by
  intro L
  induction L with
  | nil => intro rf t u W h; rw [h.1]; rfl
  | cons a L ih =>
    intro rf t u W h
    obtain ⟨s, hh, r, Fs, b, rest, u1, W1, h1, h2, ⟨d, u0, q, p, bn⟩, h4, h5⟩ := h
    rw [h2, cntL_app, p.cnt]
    show 0 + (ctd X.A b.node + cntL X.A rest) = _
    rw [bn.cnt, ih h4, List.length_cons]
    omega
/-- a frame's handler is one that may be searched -/
theorem Bnd.good {a u0 u q : Nat} {b : Fr} (hX : X.Ok) (h : Bnd X G S μ w Tv a b u0 u q) : GoodH w G a := by
  intro t ht
  rcases h with ⟨h1, h2, -⟩ | ⟨n, th, l, l', c, g, t0, ub, ks, us, a1, a2, a3, a4, a5, a6, a7, a8, a9, -⟩
  · rw [h2] at ht; cases ht
  · rw [a5] at ht
    cases ht
    obtain ⟨c0, m, m', b1, b2, b3, -⟩ := a8.j8 a3
    have e8 := a2.eight a3
    have cf := hX.cf n a2.1.1 a3
    have lt := a8.lt
    exact ⟨l, (X.A 15 n).toInt.toNat, a7, by omega, by rw [b3]; exact nI_ofT (by omega) (by omega), by omega⟩
theorem hitR_of {a th l m : Nat} (h3 : w.2.2 a 3 = some th) (h1 : w.2.1 th 1 = nI l) (hl : l ≤ 1900) (h4 : cFd G l 4 = nI m) (hm : m ≤ 8) : hitR w G e a = cres l (fcase G l e m 0) := by
  unfold hitR
  rw [h3]
  simp only [h1]
  rw [nT (n := l) (by omega), Int.toNat_natCast, h4, nT (n := m) (by omega), Int.toNat_natCast]
/-- no clause of the handler is for this effect -/
theorem Bnd.miss {a u0 u q : Nat} {b : Fr} (hX : X.Ok) (h : Bnd X G S μ w Tv a b u0 u q) (hm : Mis X e b) : hitR w G e a = -1 := by
  rcases h with ⟨h1, h2, -⟩ | ⟨n, th, l, l', c, g, t0, ub, ks, us, a1, a2, a3, a4, a5, a6, a7, a8, a9, -⟩
  · unfold hitR; rw [h2]
  · obtain ⟨c0, m, m', b1, b2, b3, b4, b5, b6, b7, b8, b9, b10, b11⟩ := a8.j8 a3
    have e8 := a2.eight a3
    have cf := hX.cf n a2.1.1 a3
    have lt := a8.lt
    rw [hitR_of a5 a7 (by omega) (m := (X.A 15 n).toInt.toNat) (by rw [b3]; exact nI_ofT (by omega) (by omega)) (by omega)]
    rcases hm with hm | ⟨n', n1, n2, n3⟩
    · exact absurd hm (node_ne a1)
    · have : n' = n := by omega
      subst this
      have nn := n3 a3
      cases hf : fcase G l e (X.A 15 n').toInt.toNat 0 with
      | none => rfl
      | some j =>
        exfalso
        obtain ⟨j1, j2, j3⟩ := fcase_lt hf
        obtain ⟨-, k2, -⟩ := b11 j (by omega)
        exact nn ((X.A 14 n').toInt.toNat + j) (by omega) (by omega) (by rw [← k2]; exact j3)
theorem Bs.srch (hX : X.Ok) : ∀ {L : List Nat} {rf : List Fr} {t u W : Nat}, Bs X G S μ w Tv L rf t u W → (∀ f, f ∈ rf → Mis X e f) → ∀ c, c ∈ L → hitR w G e c = -1 := by
  intro L
  induction L with
  | nil => intro rf t u W _ _ c hc; cases hc
  | cons a L ih =>
    intro rf t u W h hm c hc
    obtain ⟨s, hh, r, Fs, b, rest, u1, W1, h1, h2, ⟨d, u0, q, p, bn⟩, h4, h5⟩ := h
    rcases List.mem_cons.mp hc with rfl | hc
    · exact bn.miss hX (hm b (by rw [h2]; simp [si_1, si_2, sl_1, sl_2, sl_3, ai_1, ai_2, ai_3, ai_4, al_1, al_2, al_3, al_4, cp_1, cp_2, cp_3, cp_4]))
    · exact ih h4 (fun f hf => hm f (by rw [h2]; simp [si_1, si_2, sl_1, sl_2, sl_3, ai_1, ai_2, ai_3, ai_4, al_1, al_2, al_3, al_4, cp_1, cp_2, cp_3, cp_4, hf])) c hc
theorem Bs.good (hX : X.Ok) : ∀ {L : List Nat} {rf : List Fr} {t u W : Nat}, Bs X G S μ w Tv L rf t u W → ∀ c, c ∈ L → GoodH w G c := by
  intro L
  induction L with
  | nil => intro rf t u W _ c hc; cases hc
  | cons a L ih =>
    intro rf t u W h c hc
    obtain ⟨s, hh, r, Fs, b, rest, u1, W1, h1, h2, ⟨d, u0, q, p, bn⟩, h4, h5⟩ := h
    rcases List.mem_cons.mp hc with rfl | hc
    · exact bn.good hX
    · exact ih h4 c hc
/-- what is known of the handler that is found -/
def HitB (X : Cx) (G : Nat → Int32) (S : Sto) (μ : Mp) (w : Vw) (Tv : Nat → Prop) (e : Int32) (b : Nat) (f : Fr) (n q ub : Nat) : Prop :=
  ∃ (th l l' c : Nat) (g : Nat → Int) (kq uq : Nat), Gd X n ∧ (X.A 5 n).toInt = 8 ∧ w.2.2 b 3 = some th ∧ Tv th ∧ Cd X.A G c n l l' ∧ l' ≤ 1700 ∧ SR X.P S μ g (w.1 th) f.see ∧ hitR w G e b = nI (l + 1 + (q - (X.A 14 n).toInt.toNat)) ∧ X.P.fn kq (X.gv (X.A 16 q).toInt.toNat) ub ∧ Ty X.A X.P X.tk X.gv (env (env g (X.A 17 q).toInt.toNat (X.tk (X.A 16 q).toInt.toNat)) (X.A 18 q).toInt.toNat kq) (X.A 19 q).toInt.toNat uq ∧ X.P.fit uq ub
theorem Bs.hit (hX : X.Ok) {f : Fr} {n q : Nat} {r2 : List Fr} (hh : Hit X e f n q) : ∀ {L : List Nat} {r1 : List Fr} {t u W : Nat}, Bs X G S μ w Tv L (r1 ++ f :: r2) t u W → (∀ z, z ∈ r1 → Mis X e z) → ∃ L1 b L2 ub u' W1 W2, L = L1 ++ b :: L2 ∧ (∀ c, c ∈ L1 → hitR w G e c = -1) ∧ Bs X G S μ w Tv (L1 ++ [b]) (r1 ++ [f]) t ub W1 ∧ Sbt X.P ub u' ∧ Bs X G S μ w Tv L2 r2 u' u W2 ∧ W = W1 + W2 ∧ HitB X G S μ w Tv e b f n q ub := by
  intro L
  induction L with
  | nil =>
    intro r1 t u W h _
    have := h.1
    simp [si_1, si_2, sl_1, sl_2, sl_3, ai_1, ai_2, ai_3, ai_4, al_1, al_2, al_3, al_4, cp_1, cp_2, cp_3, cp_4] at this
  | cons a L ih =>
    intro r1 t u W h hm
    obtain ⟨s, h', r, Fs, bd, rest, u1, W1, h1, h2, ⟨d, u0, p, pd, bn⟩, h4, h5⟩ := h
    have hr := pd.bd.1
    obtain ⟨hh1, hh2, hh3, hh4, hh5, hh6, hh7⟩ := hh
    rcases spl3 h2.symm with ⟨z, e1⟩ | ⟨e1, e2, e3⟩ | ⟨z, e1, e2⟩
    · exfalso
      obtain ⟨n', n1, n2, n3⟩ := pd.nh f (by rw [e1]; simp [si_1, si_2, sl_1, sl_2, sl_3, ai_1, ai_2, ai_3, ai_4, al_1, al_2, al_3, al_4, cp_1, cp_2, cp_3, cp_4])
      have : n' = n := by omega
      subst this
      exact n3 hh3
    · subst e1 e2 e3
      rcases bn with ⟨b1, -⟩ | ⟨n', th, l, l', c, g, t0, ub, ks, us, a1, a2, a3, a4, a5, a6, a7, a8, a9, a10, a11, a12, a13, a14⟩
      · exact absurd b1 (node_ne hh1)
      · have : n' = n := by omega
        subst this
        obtain ⟨c0, m, m', b1, b2, b3, b4, b5, b6, b7, b8, b9, b10, b11⟩ := a8.j8 a3
        have e8 := a2.eight a3
        have cf := hX.cf n' a2.1.1 a3
        have lt := a8.lt
        obtain ⟨c1, c2, c3⟩ := a13 q hh4 hh5
        refine ⟨[], a, L, ub, u1, W1 + 1701 - r - W1, W1, rfl, (fun c hc => by cases hc), ⟨s, h', r, Fs, bd, [], ub, 0, h1, rfl, ⟨d, u0, p, pd, Or.inr ⟨n', th, l, l', c, g, t0, ub, ks, us, a1, a2, a3, a4, a5, a6, a7, a8, a9, a10, a11, a12, a13, .rfl'⟩⟩, ⟨rfl, .rfl', rfl⟩, by omega⟩, a14, h4, by omega, th, l, l', c, g, ks q, us q, a2, a3, a5, a6, a8, a9, a10, ?_, c1, c2, c3⟩
        rw [hitR_of a5 a7 (by omega) (m := (X.A 15 n').toInt.toNat) (by rw [b3]; exact nI_ofT (by omega) (by omega)) (by omega)]
        cases hf : fcase G l e (X.A 15 n').toInt.toNat 0 with
        | none =>
          exfalso
          have := fcase_none hf (q - (X.A 14 n').toInt.toNat) (by omega) (by omega)
          obtain ⟨-, k2, -⟩ := b11 (q - (X.A 14 n').toInt.toNat) (by omega)
          rw [show (X.A 14 n').toInt.toNat + (q - (X.A 14 n').toInt.toNat) = q by omega] at k2
          exact this (by rw [k2]; exact hh6)
        | some j =>
          obtain ⟨j1, j2, j3⟩ := fcase_lt hf
          obtain ⟨-, k2, -⟩ := b11 j (by omega)
          have ej : X.A 16 ((X.A 14 n').toInt.toNat + j) = e := by rw [← k2]; exact j3
          have : j = q - (X.A 14 n').toInt.toNat := by
            rcases Nat.lt_trichotomy ((X.A 14 n').toInt.toNat + j) q with z | z | z
            · exact absurd ej (hh7 _ (by omega) z)
            · omega
            · exfalso
              -- q comes first
              have hq := fcase_min hf (q - (X.A 14 n').toInt.toNat) (by omega) (by omega)
              obtain ⟨-, k3, -⟩ := b11 (q - (X.A 14 n').toInt.toNat) (by omega)
              rw [show (X.A 14 n').toInt.toNat + (q - (X.A 14 n').toInt.toNat) = q by omega] at k3
              exact hq (by rw [k3]; exact hh6)
          rw [this]
          rfl
    · subst e1
      obtain ⟨L1, b, L2, ub, u', W1', W2', g1, g2, g3, g4, g5, g6, g7⟩ := ih (r1 := z) (by rw [← e2]; exact h4) (fun y hy => hm y (by simp [si_1, si_2, sl_1, sl_2, sl_3, ai_1, ai_2, ai_3, ai_4, al_1, al_2, al_3, al_4, cp_1, cp_2, cp_3, cp_4, hy]))
      have mb : Mis X e bd := hm bd (by simp [si_1, si_2, sl_1, sl_2, sl_3, ai_1, ai_2, ai_3, ai_4, al_1, al_2, al_3, al_4, cp_1, cp_2, cp_3, cp_4])
      refine ⟨a :: L1, b, L2, ub, u', W1' + 1701 - r, W2', by rw [g1]; rfl, fun c hc => ?_, ⟨s, h', r, Fs, bd, z ++ [f], u1, W1', h1, by simp [si_1, si_2, sl_1, sl_2, sl_3, ai_1, ai_2, ai_3, ai_4, al_1, al_2, al_3, al_4, cp_1, cp_2, cp_3, cp_4], ⟨d, u0, p, pd, bn⟩, g3, by omega⟩, g4, g5, by omega, g7⟩
      rcases List.mem_cons.mp hc with rfl | hc
      · exact bn.miss hX mb
      · exact g2 c hc
end
end
