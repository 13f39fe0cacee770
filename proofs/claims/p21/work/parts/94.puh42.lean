-- pure rows: IW
section
/-! pure rows: what a telling call leaves of the reference -/
def Tl (σ σ' : mSt) (N C : Nat) : Prop := (∀ k, 36 ≤ k → σ'.1 k = σ.1 k) ∧ (σ'.2.1 = σ.2.1) ∧ (∀ k i, 5 ≤ k → k ≤ 15 → i < N → σ'.2.2.1 k i = σ.2.2.1 k i) ∧ (∀ k j, 16 ≤ k → k ≤ 19 → j < C → σ'.2.2.1 k j = σ.2.2.1 k j) ∧ (∀ k, 40 ≤ k → σ'.2.2.1 k = σ.2.2.1 k) ∧ (σ'.2.2.2 = σ.2.2.2)
theorem Tl.f {σ σ' : mSt} {N C : Nat} (self : Tl σ σ' N C) : ∀ k, 36 ≤ k → σ'.1 k = σ.1 k := self.1
theorem Tl.l {σ σ' : mSt} {N C : Nat} (self : Tl σ σ' N C) : σ'.2.1 = σ.2.1 := self.2.1
theorem Tl.nd {σ σ' : mSt} {N C : Nat} (self : Tl σ σ' N C) : ∀ k i, 5 ≤ k → k ≤ 15 → i < N → σ'.2.2.1 k i = σ.2.2.1 k i := self.2.2.1
theorem Tl.cl {σ σ' : mSt} {N C : Nat} (self : Tl σ σ' N C) : ∀ k j, 16 ≤ k → k ≤ 19 → j < C → σ'.2.2.1 k j = σ.2.2.1 k j := self.2.2.2.1
theorem Tl.a {σ σ' : mSt} {N C : Nat} (self : Tl σ σ' N C) : ∀ k, 40 ≤ k → σ'.2.2.1 k = σ.2.2.1 k := self.2.2.2.2.1
theorem Tl.al {σ σ' : mSt} {N C : Nat} (self : Tl σ σ' N C) : σ'.2.2.2 = σ.2.2.2 := self.2.2.2.2.2
theorem Tl.si4 {σ : mSt} {N C : Nat} {z : Int32} : Tl σ (mo_si σ 4 z) N C := ⟨fun k hk => by rw [si_1, if_neg (by omega)], rfl, fun _ _ _ _ _ => rfl, fun _ _ _ _ _ => rfl, fun _ _ => rfl, rfl⟩
theorem Told.tl {σ : mSt} {N C R T : Nat} {good : Prop} {w : Int32 × mSt} (h : Told σ N C R T good w) (hn : N ≤ 200) : Tl σ w.2 N C := by
  by_cases g : good
  · by_cases hN : N < 200
    · obtain ⟨-, -, -, tl, -⟩ := h.2.2 g hN
      exact ⟨fun k hk => tl.f k (by omega), tl.l, tl.nd, tl.cl, fun k hk => tl.a k (by omega) (by omega) (by omega), tl.ll⟩
    · rw [h.2.1 g (by omega)]
      exact Tl.si4
  · rw [h.1 g]
    exact Tl.si4
theorem Tl.arr {X : Cx} {σ σ' : mSt} {N C : Nat} (h : Tl σ σ' N C) (hN : X.N ≤ N) (hC : X.C ≤ C) (ar : Arr X σ) : Arr X σ' := fun k h1 h2 i hi => by
  have hi' := hi
  unfold bnd at hi'
  by_cases q : k ≤ 15
  · rw [if_pos q] at hi'
    rw [h.nd k i h1 q (by omega)]
    exact ar k h1 h2 i hi
  · rw [if_neg q] at hi'
    rw [h.cl k i (by omega) h2 (by omega)]
    exact ar k h1 h2 i hi
end
