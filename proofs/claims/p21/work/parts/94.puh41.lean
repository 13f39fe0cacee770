-- pure rows: IV
section
/-! pure rows: other cells are written, the machine stays -/
section
variable {cs : Nat → ClassId} {lim dE : Nat × Nat} {A : Ad} {r1 r2 NF : Nat} {g4 : Nat → Int32} {k4 : Nat} {fa ta : Nat → Nat} {nf nt kf kt : Nat} {M M' : gMem} {w : Vw}
theorem VT.move {W V : List (Nat × Nat)} {al : Bool} {g4' : Nat → Int32} {k4' : Nat} (h : VT cs dE A g4 k4 fa ta nf nt kf kt M w) (e : Ext W V al M M') (hW : W.all (fun x => !BAD.contains x && x.1 != 8 && x.1 != 9 && x.1 != 10 && x.1 != 11) = true) (hV : V.all (fun x => x != (13, 0) && x != (10, 0) && x != (11, 0)) = true) (c4 : CeIs cs M' A.c4 g4' k4') : VT cs dE A g4' k4' fa ta nf nt kf kt M' w := by
  have w1 : W.all (fun x => !BAD.contains x) = true := List.all_eq_true.mpr fun x hx => by
    have := List.all_eq_true.mp hW x hx
    simp only [Bool.and_eq_true] at this ⊢
    exact this.1.1.1.1
  have nW : ∀ ci k, (ci = 8 ∨ ci = 9 ∨ ci = 10 ∨ ci = 11) → (ci, k) ∉ W := fun ci k hc hm => by
    have := List.all_eq_true.mp hW _ hm
    simp only [Bool.and_eq_true, bne_iff_ne, ne_eq] at this
    omega
  have nc : ∀ (L : List (Nat × Nat)) (x : Nat × Nat), x ∉ L → L.contains x = false := fun L x hx => by
    cases hc : L.contains x with
    | false => rfl
    | true => exact absurd (List.contains_iff_mem.mp hc) hx
  have n13 : ∀ k, k = 0 ∨ k = 1 → (13, k) ∉ W := fun k hk hm => by
    have := List.all_eq_true.mp hW _ hm
    simp only [Bool.and_eq_true] at this
    have z := this.1.1.1.1
    rcases hk with rfl | rfl
    · revert z; decide
    · revert z; decide
  have nV : ∀ x, x = (13, 0) ∨ x = (10, 0) ∨ x = (11, 0) → x ∉ V := fun x hx hm => by
    have := List.all_eq_true.mp hV _ hm
    simp only [Bool.and_eq_true, bne_iff_ne, ne_eq] at this
    rcases hx with rfl | rfl | rfl <;> simp [si_1, si_2, sl_1, sl_2, sl_3, ai_1, ai_2, ai_3, ai_4, al_1, al_2, al_3, al_4, cp_1, cp_2, cp_3, cp_4] at this
  have L := h.h.lay
  refine ⟨h.h.move e w1 (nc _ _ (nV _ (Or.inl rfl))) c4, h.lf.ext e (nc _ _ (n13 0 (Or.inl rfl))) (nc _ _ (n13 1 (Or.inr rfl))) (nc _ _ (nV _ (Or.inl rfl))), h.lt.ext e (nc _ _ (n13 0 (Or.inl rfl))) (nc _ _ (n13 1 (Or.inr rfl))) (nc _ _ (nV _ (Or.inl rfl))), fun a ha => ?_, fun a ha => ?_, ⟨fun a ha => ?_, fun a k ha => ?_⟩, h.fi, h.ti⟩
  · obtain ⟨b, b1, b2, b3⟩ := h.sf a ha
    exact ⟨b, by rw [e.xcQ (h.h.fr a ha).ok (nW 10 0 (by omega))]; exact b1, b2.ext e b3, Nat.lt_of_lt_of_le b3 e.sz.1⟩
  · obtain ⟨b, b1, b2, b3⟩ := h.st a ha
    exact ⟨b, by rw [e.xcQ (h.h.th a ha).ok (nW 11 0 (by omega))]; exact b1, b2.ext e b3, Nat.lt_of_lt_of_le b3 e.sz.1⟩
  · obtain ⟨b, b1, b2⟩ := h.ag.1 a ha
    rcases ha with g | g
    · obtain ⟨b', c1, c2, c3⟩ := h.sf a g
      obtain ⟨b'', d1, d2, -⟩ := (h.h.fr a g).sl
      rw [b1] at c1 d1
      have e1 := Option.some.inj c1
      have e2 := Option.some.inj d1
      subst e1 e2
      exact ⟨b, by rw [e.xcQ (h.h.fr a g).ok (nW 10 0 (by omega))]; exact b1, fun j => by rw [e.xaF d2 (c2.notV (nc _ _ (nV _ (Or.inr (Or.inl rfl)))))]; exact b2 j⟩
    · obtain ⟨b', c1, c2, c3⟩ := h.st a g
      obtain ⟨b'', d1, d2, -⟩ := (h.h.th a g).nm
      rw [b1] at c1 d1
      have e1 := Option.some.inj c1
      have e2 := Option.some.inj d1
      subst e1 e2
      exact ⟨b, by rw [e.xcQ (h.h.th a g).ok (nW 11 0 (by omega))]; exact b1, fun j => by rw [e.xaF d2 (c2.notV (nc _ _ (nV _ (Or.inr (Or.inr rfl)))))]; exact b2 j⟩
  · obtain ⟨y1, y2⟩ := h.ag.2 a k ha
    rcases ha with g | g | g | g
    · have ho := (h.h.fr a g).ok
      exact ⟨(e.xcI ho (nW 10 k (by omega))).trans y1, (e.xcQ ho (nW 10 k (by omega))).trans y2⟩
    · have ho := (h.h.th a g).ok
      exact ⟨(e.xcI ho (nW 11 k (by omega))).trans y1, (e.xcQ ho (nW 11 k (by omega))).trans y2⟩
    · subst g
      have ho := L.ma_0.1
      exact ⟨(e.xcI ho (nW 8 k (by omega))).trans y1, (e.xcQ ho (nW 8 k (by omega))).trans y2⟩
    · subst g
      have ho := L.st_0.1
      exact ⟨(e.xcI ho (nW 9 k (by omega))).trans y1, (e.xcQ ho (nW 9 k (by omega))).trans y2⟩
end
section
variable {cs : Nat → ClassId} {lim dE : Nat × Nat} {A : Ad} {r1 r2 NF : Nat} {X : Cx} {G : Nat → Int32} {k4 : Nat} {M M' : gMem} {σ σ' : mSt} {mk : Fr} {ut : Nat}
/-- as McA.tell, where other cells are written too -/
theorem McA.move {W V : List (Nat × Nat)} {al : Bool} {r1' r2' : Nat} {g4' : Nat → Int32} {k4' : Nat} {Fs Ts : Nat → Prop} (h : McA cs lim dE A r1 r2 NF X G k4 mk ut M σ) (om : cOk 8 M A.ma) (e : Ext W V al M M') (hW : W.all (fun x => !BAD.contains x && x.1 != 8 && x.1 != 9 && x.1 != 10 && x.1 != 11) = true) (hV : V.all (fun x => x != (13, 0) && x != (10, 0) && x != (11, 0)) = true) (c4 : CeIs cs M' A.c4 G k4) (hs : HS cs lim dE A r1' r2' NF g4' k4' Fs Ts M') (f : ∀ k, 44 ≤ k → σ'.1 k = σ.1 k) (l : σ'.2.1 = σ.2.1) (ar : Arr X σ → Arr X σ') (a : ∀ k, 40 ≤ k → σ'.2.2.1 k = σ.2.2.1 k) (ax : σ'.2.2.2 = σ.2.2.2) : McA cs lim dE A r1' r2' NF X G k4 mk ut M' σ' := by
  rcases h with ⟨h46, h4, h5, h6, h7, h8, h9⟩ | ⟨h, Mx, ok⟩ | ⟨tk, h⟩
  · have nW : ∀ k, (8, k) ∉ W := fun k hm => by
      have := List.all_eq_true.mp hW _ hm
      simp only [Bool.and_eq_true, bne_iff_ne, ne_eq] at this
      exact this.1.1.1.2 trivial
    refine Or.inl ⟨by rw [f 46 (by omega)]; exact h46, ?_, ?_, ?_, ?_, ?_, ?_⟩
    · rw [e.xcI om (nW 4)]; exact h4
    · rw [e.xcI om (nW 5)]; exact h5
    · rw [e.xcI om (nW 6)]; exact h6
    · rw [e.xcI om (nW 7)]; exact h7
    · rw [e.xcI om (nW 8)]; exact h8
    · rw [e.xcI om (nW 9)]; exact h9
  · refine Or.inr (Or.inl ⟨?_, Mx, ok.congr f l ar a ax⟩)
    obtain ⟨S, μ, fa, ta, nf, nt, u, v, own, Lf, Wk, w, W0, c, h4, st⟩ := h
    obtain ⟨kf, kt, vt⟩ := c.vs.lite
    have h' : RsA cs lim dE A r1' r2' NF X G k4 mk ut M' σ := ⟨S, μ, fa, ta, nf, nt, u, v, own, Lf, Wk, w, W0, c.swap ((vt.move e hW hV c4).full hs), h4, st⟩
    exact h'.mo f l ar a ax
  · refine Or.inr (Or.inr ⟨tk, ?_⟩)
    obtain ⟨fa, ta, nf, nt, w, vs, r⟩ := h
    obtain ⟨kf, kt, vt⟩ := vs.lite
    have h' : FinA cs lim dE A r1' r2' NF G k4 ut M' σ tk := ⟨fa, ta, nf, nt, w, (vt.move e hW hV c4).full hs, r⟩
    exact h'.mo f l
end
end
