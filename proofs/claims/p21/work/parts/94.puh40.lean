-- pure rows: IU
section
/-! pure rows: the reference's run that begins is in order -/
theorem begin_run {X : Cx} {σ : mSt} {p t : Nat} (ar : Arr X σ) (f36 : (σ.1 36).toInt = p) (gd : Good X p) (ty : Ty X.A X.P X.tk X.gv (fun _ => -1) p t) : ∃ Mx, RunOk X (F_Mo_begin σ) Mx := by
  have ar' : Arr X (F_Mo_begin σ) := ar.congr (fun k _ _ => by simp [si_1, si_2, sl_1, sl_2, sl_3, ai_1, ai_2, ai_3, ai_4, al_1, al_2, al_3, al_4, cp_1, cp_2, cp_3, cp_4, F_Mo_begin])
  have g45 : (F_Mo_begin σ).1 45 = σ.1 36 := by simp [si_1, si_2, sl_1, sl_2, sl_3, ai_1, ai_2, ai_3, ai_4, al_1, al_2, al_3, al_4, cp_1, cp_2, cp_3, cp_4, F_Mo_begin]
  have g13 := gd.2.2
  refine ⟨_, ⟨0, 0, fun _ => 0, fun _ => 0⟩, 0, 0, 0, 0, 0, t, t, 41, ⟨ar', ⟨by simp [si_1, si_2, sl_1, sl_2, sl_3, ai_1, ai_2, ai_3, ai_4, al_1, al_2, al_3, al_4, cp_1, cp_2, cp_3, cp_4, F_Mo_begin], by simp [si_1, si_2, sl_1, sl_2, sl_3, ai_1, ai_2, ai_3, ai_4, al_1, al_2, al_3, al_4, cp_1, cp_2, cp_3, cp_4, F_Mo_begin], by simp [si_1, si_2, sl_1, sl_2, sl_3, ai_1, ai_2, ai_3, ai_4, al_1, al_2, al_3, al_4, cp_1, cp_2, cp_3, cp_4, F_Mo_begin], by omega, by simp [si_1, si_2, sl_1, sl_2, sl_3, ai_1, ai_2, ai_3, ai_4, al_1, al_2, al_3, al_4, cp_1, cp_2, cp_3, cp_4, F_Mo_begin], fun i hi => absurd hi (Nat.not_lt_zero _), fun i hi => absurd hi (Nat.not_lt_zero _)⟩, by simp [si_1, si_2, sl_1, sl_2, sl_3, ai_1, ai_2, ai_3, ai_4, al_1, al_2, al_3, al_4, cp_1, cp_2, cp_3, cp_4, F_Mo_begin], by simp [si_1, si_2, sl_1, sl_2, sl_3, ai_1, ai_2, ai_3, ai_4, al_1, al_2, al_3, al_4, cp_1, cp_2, cp_3, cp_4, F_Mo_begin], by omega, .nil .rfl'⟩, Or.inr ⟨by simp [si_1, si_2, sl_1, sl_2, sl_3, ai_1, ai_2, ai_3, ai_4, al_1, al_2, al_3, al_4, cp_1, cp_2, cp_3, cp_4, F_Mo_begin], p, ⟨by rw [g45]; exact f36, gd, by omega, _, ty, ?_⟩, rfl⟩⟩
  intro k hk t' e
  simp only at e
  omega
section
variable {cs : Nat → ClassId} {lim dE : Nat × Nat} {A : Ad} {r1 r2 NF : Nat} {X : Cx} {G : Nat → Int32} {k4 : Nat} {M M' : gMem} {σ σ' : mSt} {mk : Fr} {ut : Nat}
/-- a call that only tells: the machines stand as before -/
theorem McA.tell {W V : List (Nat × Nat)} {al : Bool} {r1' r2' : Nat} {g4' : Nat → Int32} {k4' : Nat} {Fs Ts : Nat → Prop} (h : McA cs lim dE A r1 r2 NF X G k4 mk ut M σ) (om : cOk 8 M A.ma) (e : Ext W V al M M') (hW : W.all (fun x => !BAD.contains x && x != (2, 0) && x.1 != 8 && x.1 != 9 && x.1 != 10 && x.1 != 11) = true) (hV : V.all (fun x => x != (13, 0) && x != (2, 0) && x != (10, 0) && x != (11, 0)) = true) (hs : HS cs lim dE A r1' r2' NF g4' k4' Fs Ts M') (f : ∀ k, 44 ≤ k → σ'.1 k = σ.1 k) (l : σ'.2.1 = σ.2.1) (ar : Arr X σ → Arr X σ') (a : ∀ k, 40 ≤ k → σ'.2.2.1 k = σ.2.2.1 k) (ax : σ'.2.2.2 = σ.2.2.2) : McA cs lim dE A r1' r2' NF X G k4 mk ut M' σ' := by
  rcases h with ⟨h46, h4, h5, h6, h7, h8, h9⟩ | ⟨h, Mx, ok⟩ | ⟨tk, h⟩
  · have nW : ∀ k, (8, k) ∉ W := fun k hm => by
      have := List.all_eq_true.mp hW _ hm
      simp only [Bool.and_eq_true, bne_iff_ne, ne_eq] at this
      exact this.1.1.1.2 trivial
    refine Or.inl ⟨by rw [f 46 (by omega)]; exact h46, ?_, ?_, ?_, ?_, ?_, ?_⟩
    · rw [e.xcI om (nW 4)]; exact h4
    · rw [e.xcI om (nW 5)]; exact h5
    · rw [e.xcI om (nW 6)]; exact h6
    · rw [e.xcI om (nW 7)]; exact h7
    · rw [e.xcI om (nW 8)]; exact h8
    · rw [e.xcI om (nW 9)]; exact h9
  · exact Or.inr (Or.inl ⟨(h.ext e hW hV hs).mo f l ar a ax, Mx, ok.congr f l ar a ax⟩)
  · exact Or.inr (Or.inr ⟨tk, (h.ext e hW hV hs).mo f l⟩)
end
end
