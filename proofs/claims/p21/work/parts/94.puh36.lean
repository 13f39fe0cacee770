-- pure rows: IQ
section
/-! pure rows: between the calls, the class's machine stays -/
theorem gr_step : ∀ n, 10 ≤ gr n ∧ gr n < gr (n + 1) := by
  intro n
  induction n with
  | zero => exact ⟨by decide, by decide⟩
  | succ n ih =>
    have e : gr (n + 1) = gr n + gr n / 2 := rfl
    have e2 : gr (n + 1 + 1) = gr (n + 1) + gr (n + 1) / 2 := rfl
    omega
theorem gr_lt {m : Nat} : ∀ {n : Nat}, m < n → gr m < gr n := by
  intro n
  induction n with
  | zero => intro h; omega
  | succ n ih =>
    intro h
    have s := (gr_step n).2
    by_cases q : m = n
    · rw [q]; exact s
    · have := ih (by omega)
      omega
theorem gr_inj {m n : Nat} (h : gr m = gr n) : m = n := by
  rcases Nat.lt_trichotomy m n with q | q | q
  · have := gr_lt q
    omega
  · exact q
  · have := gr_lt q
    omega
section
variable {cs : Nat → ClassId} {lim dE : Nat × Nat} {A : Ad} {r1 r2 NF : Nat} {g4 : Nat → Int32} {k4 : Nat} {fa ta : Nat → Nat} {nf nt kf kt : Nat} {M M' : gMem} {w : Vw}
theorem LiJ.same {a sz sz' n n' : Nat} {P : Nat → Nat → Prop} {P' : Nat → Prop} (h : LiJ cs dE M a P sz n) (g : LiI cs dE M a P' sz' n') (de : M.1 dE.1 = none) : sz = sz' ∧ n = n' := by
  have h1 := h.siz
  have g1 := g.siz
  have es : sz = sz' := by omega
  refine ⟨es, ?_⟩
  have nd : ∀ b, aQk (cs 5) M b → b ≠ dE.1 := fun b hb q => by
    obtain ⟨_, _, z⟩ := hb
    rw [q, de] at z
    cases z
  rcases h.ref with ⟨a1, a2, a3⟩ | ⟨m, b, a1, a2, a3⟩
  · rcases g.ref with ⟨b1, b2, b3⟩ | ⟨m', b', b1, b2, b3⟩
    · omega
    · exfalso
      rw [a3] at b2
      exact nd b' b3.ok (Option.some.inj b2).symm
  · rcases g.ref with ⟨b1, b2, b3⟩ | ⟨m', b', b1, b2, b3⟩
    · exfalso
      rw [a2] at b3
      exact nd b a3.ok (Option.some.inj b3)
    · rw [a2] at b2
      have e : b = b' := Option.some.inj b2
      subst e
      have l1 := a3.len
      have l2 := b3.len
      have e := gr_inj (m := m) (n := m') (by omega)
      omega
/-- as VS, but for the room -/
def VT (cs : Nat → ClassId) (dE : Nat × Nat) (A : Ad) (g4 : Nat → Int32) (k4 : Nat) (fa ta : Nat → Nat) (nf nt kf kt : Nat) (M : gMem) (w : Vw) : Prop := (HTL cs dE A (FsO fa nf) (FsO ta nt) nf nt kf kt g4 k4 M) ∧ (LiJ cs dE M A.fl (fun i z => z = fa i) nf kf) ∧ (LiJ cs dE M A.tl (fun i z => z = ta i) nt kt) ∧ (∀ a, FsO fa nf a → SoA M 10 a) ∧ (∀ a, FsO ta nt a → SoA M 11 a) ∧ (Ag A (FsO fa nf) (FsO ta nt) M w) ∧ (∀ i j, i < nf → j < nf → fa i = fa j → i = j) ∧ (∀ i j, i < nt → j < nt → ta i = ta j → i = j)
theorem VT.h {cs : Nat → ClassId} {dE : Nat × Nat} {A : Ad} {g4 : Nat → Int32} {k4 : Nat} {fa ta : Nat → Nat} {nf nt kf kt : Nat} {M : gMem} {w : Vw} (self : VT cs dE A g4 k4 fa ta nf nt kf kt M w) : HTL cs dE A (FsO fa nf) (FsO ta nt) nf nt kf kt g4 k4 M := self.1
theorem VT.lf {cs : Nat → ClassId} {dE : Nat × Nat} {A : Ad} {g4 : Nat → Int32} {k4 : Nat} {fa ta : Nat → Nat} {nf nt kf kt : Nat} {M : gMem} {w : Vw} (self : VT cs dE A g4 k4 fa ta nf nt kf kt M w) : LiJ cs dE M A.fl (fun i z => z = fa i) nf kf := self.2.1
theorem VT.lt {cs : Nat → ClassId} {dE : Nat × Nat} {A : Ad} {g4 : Nat → Int32} {k4 : Nat} {fa ta : Nat → Nat} {nf nt kf kt : Nat} {M : gMem} {w : Vw} (self : VT cs dE A g4 k4 fa ta nf nt kf kt M w) : LiJ cs dE M A.tl (fun i z => z = ta i) nt kt := self.2.2.1
theorem VT.sf {cs : Nat → ClassId} {dE : Nat × Nat} {A : Ad} {g4 : Nat → Int32} {k4 : Nat} {fa ta : Nat → Nat} {nf nt kf kt : Nat} {M : gMem} {w : Vw} (self : VT cs dE A g4 k4 fa ta nf nt kf kt M w) : ∀ a, FsO fa nf a → SoA M 10 a := self.2.2.2.1
theorem VT.st {cs : Nat → ClassId} {dE : Nat × Nat} {A : Ad} {g4 : Nat → Int32} {k4 : Nat} {fa ta : Nat → Nat} {nf nt kf kt : Nat} {M : gMem} {w : Vw} (self : VT cs dE A g4 k4 fa ta nf nt kf kt M w) : ∀ a, FsO ta nt a → SoA M 11 a := self.2.2.2.2.1
theorem VT.ag {cs : Nat → ClassId} {dE : Nat × Nat} {A : Ad} {g4 : Nat → Int32} {k4 : Nat} {fa ta : Nat → Nat} {nf nt kf kt : Nat} {M : gMem} {w : Vw} (self : VT cs dE A g4 k4 fa ta nf nt kf kt M w) : Ag A (FsO fa nf) (FsO ta nt) M w := self.2.2.2.2.2.1
theorem VT.fi {cs : Nat → ClassId} {dE : Nat × Nat} {A : Ad} {g4 : Nat → Int32} {k4 : Nat} {fa ta : Nat → Nat} {nf nt kf kt : Nat} {M : gMem} {w : Vw} (self : VT cs dE A g4 k4 fa ta nf nt kf kt M w) : ∀ i j, i < nf → j < nf → fa i = fa j → i = j := self.2.2.2.2.2.2.1
theorem VT.ti {cs : Nat → ClassId} {dE : Nat × Nat} {A : Ad} {g4 : Nat → Int32} {k4 : Nat} {fa ta : Nat → Nat} {nf nt kf kt : Nat} {M : gMem} {w : Vw} (self : VT cs dE A g4 k4 fa ta nf nt kf kt M w) : ∀ i j, i < nt → j < nt → ta i = ta j → i = j := self.2.2.2.2.2.2.2
theorem VS.lite (h : VS cs lim dE A r1 r2 NF g4 k4 fa ta nf nt M w) : ∃ kf kt, VT cs dE A g4 k4 fa ta nf nt kf kt M w := by
  obtain ⟨kf, kt, h1, h2, h3, h4⟩ := h.h
  exact ⟨kf, kt, h1, h3, h4, h.sf, h.st, h.ag, h.fi, h.ti⟩
/-- the room is known from elsewhere -/
theorem VT.full {g4' : Nat → Int32} {k4' : Nat} {Fs Ts : Nat → Prop} (h : VT cs dE A g4 k4 fa ta nf nt kf kt M w) (hs : HS cs lim dE A r1 r2 NF g4' k4' Fs Ts M) : VS cs lim dE A r1 r2 NF g4 k4 fa ta nf nt M w := by
  obtain ⟨nf', nt', kf', kt', h1, h2⟩ := hs
  obtain ⟨e1, e2⟩ := h.lf.same h1.fl h1.de.2
  obtain ⟨e3, e4⟩ := h.lt.same h1.tl h1.de.2
  subst e1 e2 e3 e4
  exact ⟨⟨kf, kt, h.h, h2, h.lf, h.lt⟩, h.sf, h.st, h.ag, h.fi, h.ti⟩
theorem VT.ext {W V : List (Nat × Nat)} {al : Bool} (h : VT cs dE A g4 k4 fa ta nf nt kf kt M w) (e : Ext W V al M M') (hW : W.all (fun x => !BAD.contains x && x != (2, 0) && x.1 != 8 && x.1 != 9 && x.1 != 10 && x.1 != 11) = true) (hV : V.all (fun x => x != (13, 0) && x != (2, 0) && x != (10, 0) && x != (11, 0)) = true) : VT cs dE A g4 k4 fa ta nf nt kf kt M' w := by
  have w1 : W.all (fun x => !BAD.contains x && x != (2, 0)) = true := List.all_eq_true.mpr fun x hx => by
    have := List.all_eq_true.mp hW x hx
    simp only [Bool.and_eq_true] at this ⊢
    exact this.1.1.1.1
  have v1 : V.all (fun x => x != (13, 0) && x != (2, 0)) = true := List.all_eq_true.mpr fun x hx => by
    have := List.all_eq_true.mp hV x hx
    simp only [Bool.and_eq_true] at this ⊢
    exact this.1.1
  have nW : ∀ ci k, (ci = 8 ∨ ci = 9 ∨ ci = 10 ∨ ci = 11) → (ci, k) ∉ W := fun ci k hc hm => by
    have := List.all_eq_true.mp hW _ hm
    simp only [Bool.and_eq_true, bne_iff_ne, ne_eq] at this
    omega
  have nc : ∀ (L : List (Nat × Nat)) (x : Nat × Nat), x ∉ L → L.contains x = false := fun L x hx => by
    cases hc : L.contains x with
    | false => rfl
    | true => exact absurd (List.contains_iff_mem.mp hc) hx
  have n13 : ∀ k, k = 0 ∨ k = 1 → (13, k) ∉ W := fun k hk hm => by
    have := List.all_eq_true.mp hW _ hm
    simp only [Bool.and_eq_true] at this
    have z := this.1.1.1.1.1
    rcases hk with rfl | rfl
    · revert z; decide
    · revert z; decide
  have nV : ∀ x, x = (13, 0) ∨ x = (10, 0) ∨ x = (11, 0) → x ∉ V := fun x hx hm => by
    have := List.all_eq_true.mp hV _ hm
    simp only [Bool.and_eq_true, bne_iff_ne, ne_eq] at this
    rcases hx with rfl | rfl | rfl <;> simp [si_1, si_2, sl_1, sl_2, sl_3, ai_1, ai_2, ai_3, ai_4, al_1, al_2, al_3, al_4, cp_1, cp_2, cp_3, cp_4] at this
  have L := h.h.lay
  refine ⟨h.h.ext e w1 v1, h.lf.ext e (nc _ _ (n13 0 (Or.inl rfl))) (nc _ _ (n13 1 (Or.inr rfl))) (nc _ _ (nV _ (Or.inl rfl))), h.lt.ext e (nc _ _ (n13 0 (Or.inl rfl))) (nc _ _ (n13 1 (Or.inr rfl))) (nc _ _ (nV _ (Or.inl rfl))), fun a ha => ?_, fun a ha => ?_, ⟨fun a ha => ?_, fun a k ha => ?_⟩, h.fi, h.ti⟩
  · obtain ⟨b, b1, b2, b3⟩ := h.sf a ha
    exact ⟨b, by rw [e.xcQ (h.h.fr a ha).ok (nW 10 0 (by omega))]; exact b1, b2.ext e b3, Nat.lt_of_lt_of_le b3 e.sz.1⟩
  · obtain ⟨b, b1, b2, b3⟩ := h.st a ha
    exact ⟨b, by rw [e.xcQ (h.h.th a ha).ok (nW 11 0 (by omega))]; exact b1, b2.ext e b3, Nat.lt_of_lt_of_le b3 e.sz.1⟩
  · obtain ⟨b, b1, b2⟩ := h.ag.1 a ha
    rcases ha with g | g
    · obtain ⟨b', c1, c2, c3⟩ := h.sf a g
      obtain ⟨b'', d1, d2, -⟩ := (h.h.fr a g).sl
      rw [b1] at c1 d1
      have e1 := Option.some.inj c1
      have e2 := Option.some.inj d1
      subst e1 e2
      exact ⟨b, by rw [e.xcQ (h.h.fr a g).ok (nW 10 0 (by omega))]; exact b1, fun j => by rw [e.xaF d2 (c2.notV (nc _ _ (nV _ (Or.inr (Or.inl rfl)))))]; exact b2 j⟩
    · obtain ⟨b', c1, c2, c3⟩ := h.st a g
      obtain ⟨b'', d1, d2, -⟩ := (h.h.th a g).nm
      rw [b1] at c1 d1
      have e1 := Option.some.inj c1
      have e2 := Option.some.inj d1
      subst e1 e2
      exact ⟨b, by rw [e.xcQ (h.h.th a g).ok (nW 11 0 (by omega))]; exact b1, fun j => by rw [e.xaF d2 (c2.notV (nc _ _ (nV _ (Or.inr (Or.inr rfl)))))]; exact b2 j⟩
  · obtain ⟨y1, y2⟩ := h.ag.2 a k ha
    rcases ha with g | g | g | g
    · have ho := (h.h.fr a g).ok
      exact ⟨(e.xcI ho (nW 10 k (by omega))).trans y1, (e.xcQ ho (nW 10 k (by omega))).trans y2⟩
    · have ho := (h.h.th a g).ok
      exact ⟨(e.xcI ho (nW 11 k (by omega))).trans y1, (e.xcQ ho (nW 11 k (by omega))).trans y2⟩
    · subst g
      have ho := L.ma_0.1
      exact ⟨(e.xcI ho (nW 8 k (by omega))).trans y1, (e.xcQ ho (nW 8 k (by omega))).trans y2⟩
    · subst g
      have ho := L.st_0.1
      exact ⟨(e.xcI ho (nW 9 k (by omega))).trans y1, (e.xcQ ho (nW 9 k (by omega))).trans y2⟩
theorem SimC.swap {X : Cx} {S : Sto} {μ : Mp} {u v : Nat} {own : Nat → Nat} {Lf : List Nat} {Wk : Nat → Nat} {σ : mSt} {r1' r2' : Nat} (h : SimC cs lim dE A r1 r2 NF X g4 k4 S μ fa ta nf nt u v own Lf Wk M w σ) (vs' : VS cs lim dE A r1' r2' NF g4 k4 fa ta nf nt M' w) : SimC cs lim dE A r1' r2' NF X g4 k4 S μ fa ta nf nt u v own Lf Wk M' w σ :=
  ⟨vs', h.su, h.uN, h.sv, h.v1, h.lf, h.ou, h.th, h.dp, h.fu, h.un, h.va, h.nf, h.nk, h.ar, h.fn, h.kn, h.ki, h.hw, h.vt, h.sn, h.uf⟩
/-- a call that the machine has no part in -/
theorem RsA.ext {X : Cx} {mk : Fr} {ut : Nat} {σ : mSt} {W V : List (Nat × Nat)} {al : Bool} {r1' r2' : Nat} {g4' : Nat → Int32} {k4' : Nat} {Fs Ts : Nat → Prop} (h : RsA cs lim dE A r1 r2 NF X g4 k4 mk ut M σ) (e : Ext W V al M M') (hW : W.all (fun x => !BAD.contains x && x != (2, 0) && x.1 != 8 && x.1 != 9 && x.1 != 10 && x.1 != 11) = true) (hV : V.all (fun x => x != (13, 0) && x != (2, 0) && x != (10, 0) && x != (11, 0)) = true) (hs : HS cs lim dE A r1' r2' NF g4' k4' Fs Ts M') : RsA cs lim dE A r1' r2' NF X g4 k4 mk ut M' σ := by
  obtain ⟨S, μ, fa, ta, nf, nt, u, v, own, Lf, Wk, w, W0, c, h4, st⟩ := h
  obtain ⟨kf, kt, vt⟩ := c.vs.lite
  exact ⟨S, μ, fa, ta, nf, nt, u, v, own, Lf, Wk, w, W0, c.swap ((vt.ext e hW hV).full hs), h4, st⟩
theorem FinA.ext {ut : Nat} {σ : mSt} {W V : List (Nat × Nat)} {al : Bool} {tk r1' r2' : Nat} {g4' : Nat → Int32} {k4' : Nat} {Fs Ts : Nat → Prop} (h : FinA cs lim dE A r1 r2 NF g4 k4 ut M σ tk) (e : Ext W V al M M') (hW : W.all (fun x => !BAD.contains x && x != (2, 0) && x.1 != 8 && x.1 != 9 && x.1 != 10 && x.1 != 11) = true) (hV : V.all (fun x => x != (13, 0) && x != (2, 0) && x != (10, 0) && x != (11, 0)) = true) (hs : HS cs lim dE A r1' r2' NF g4' k4' Fs Ts M') : FinA cs lim dE A r1' r2' NF g4 k4 ut M' σ tk := by
  obtain ⟨fa, ta, nf, nt, w, vs, r⟩ := h
  obtain ⟨kf, kt, vt⟩ := vs.lite
  exact ⟨fa, ta, nf, nt, w, (vt.ext e hW hV).full hs, r⟩
end
end
