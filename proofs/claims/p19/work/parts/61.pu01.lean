-- pure rows: G H I J
section
/-! pure rows: telling -/
def Nm (x : Int32) : Prop := 0 ≤ x.toInt ∧ x.toInt < 10
def Is (N : Nat) (x : Int32) : Prop := 0 ≤ x.toInt ∧ x.toInt < N
def dNm (x : Int32) : Decidable (Nm x) := inferInstanceAs (Decidable (_ ∧ _))
def dIs (N : Nat) (x : Int32) : Decidable (Is N x) := inferInstanceAs (Decidable (_ ∧ _))
theorem isName_S (σ : mSt) (x : Int32) : S_Mo_isName σ x := by unfold S_Mo_isName; split <;> (try split) <;> trivial
theorem isEffect_S (σ : mSt) (x : Int32) : S_Mo_isEffect σ x := by unfold S_Mo_isEffect; split <;> (try split) <;> trivial
theorem isNode_S (σ : mSt) (x : Int32) : S_Mo_isNode σ x := by unfold S_Mo_isNode; split <;> (try split) <;> trivial
theorem isType_S (σ : mSt) (x : Int32) : S_Mo_isType σ x := by unfold S_Mo_isType; split <;> (try split) <;> trivial
theorem isName_F (σ : mSt) (x : Int32) : F_Mo_isName σ x = (@ite _ (Nm x) (dNm x) 1 0, σ) := by
  unfold F_Mo_isName
  split
  · rename_i h; rw [if_neg (fun hh : Nm x => by unfold Nm at hh; ((try (simp only [vp_in, Int32.toNatClampNeg, Int32.lt_iff_toInt_lt, Int32.le_iff_toInt_le, ← Int32.toInt_inj, Int32.toInt_add, Int32.toInt_sub, Int32.toInt_mul, Int32.reduceToInt, i32_neg1, Nat.reducePow, Int.reducePow, ne_eq, ge_iff_le, gt_iff_lt] at *)) <;> (first | omega | ((simp (disch := omega) only [bm32] at *) <;> omega))))]
  · rename_i h
    split
    · rename_i g; rw [if_neg (fun hh : Nm x => by unfold Nm at hh; ((try (simp only [vp_in, Int32.toNatClampNeg, Int32.lt_iff_toInt_lt, Int32.le_iff_toInt_le, ← Int32.toInt_inj, Int32.toInt_add, Int32.toInt_sub, Int32.toInt_mul, Int32.reduceToInt, i32_neg1, Nat.reducePow, Int.reducePow, ne_eq, ge_iff_le, gt_iff_lt] at *)) <;> (first | omega | ((simp (disch := omega) only [bm32] at *) <;> omega))))]
    · rename_i g; rw [if_pos (show Nm x from by unfold Nm; ((try (simp only [vp_in, Int32.toNatClampNeg, Int32.lt_iff_toInt_lt, Int32.le_iff_toInt_le, ← Int32.toInt_inj, Int32.toInt_add, Int32.toInt_sub, Int32.toInt_mul, Int32.reduceToInt, i32_neg1, Nat.reducePow, Int.reducePow, ne_eq, ge_iff_le, gt_iff_lt] at *)) <;> (first | omega | ((simp (disch := omega) only [bm32] at *) <;> omega))))]
theorem isEffect_F (σ : mSt) (x : Int32) : F_Mo_isEffect σ x = (@ite _ (Is 8 x) (dIs 8 x) 1 0, σ) := by
  unfold F_Mo_isEffect
  split
  · rename_i h; rw [if_neg (fun hh : Is 8 x => by unfold Is at hh; ((try (simp only [vp_in, Int32.toNatClampNeg, Int32.lt_iff_toInt_lt, Int32.le_iff_toInt_le, ← Int32.toInt_inj, Int32.toInt_add, Int32.toInt_sub, Int32.toInt_mul, Int32.reduceToInt, i32_neg1, Nat.reducePow, Int.reducePow, ne_eq, ge_iff_le, gt_iff_lt] at *)) <;> (first | omega | ((simp (disch := omega) only [bm32] at *) <;> omega))))]
  · rename_i h
    split
    · rename_i g; rw [if_neg (fun hh : Is 8 x => by unfold Is at hh; ((try (simp only [vp_in, Int32.toNatClampNeg, Int32.lt_iff_toInt_lt, Int32.le_iff_toInt_le, ← Int32.toInt_inj, Int32.toInt_add, Int32.toInt_sub, Int32.toInt_mul, Int32.reduceToInt, i32_neg1, Nat.reducePow, Int.reducePow, ne_eq, ge_iff_le, gt_iff_lt] at *)) <;> (first | omega | ((simp (disch := omega) only [bm32] at *) <;> omega))))]
    · rename_i g; rw [if_pos (show Is 8 x from by unfold Is; ((try (simp only [vp_in, Int32.toNatClampNeg, Int32.lt_iff_toInt_lt, Int32.le_iff_toInt_le, ← Int32.toInt_inj, Int32.toInt_add, Int32.toInt_sub, Int32.toInt_mul, Int32.reduceToInt, i32_neg1, Nat.reducePow, Int.reducePow, ne_eq, ge_iff_le, gt_iff_lt] at *)) <;> (first | omega | ((simp (disch := omega) only [bm32] at *) <;> omega))))]
theorem isNode_F {σ : mSt} {N : Nat} (hN : (σ.1 0).toInt = N) (x : Int32) : F_Mo_isNode σ x = (@ite _ (Is N x) (dIs N x) 1 0, σ) := by
  unfold F_Mo_isNode
  split
  · rename_i h; rw [if_neg (fun hh : Is N x => by unfold Is at hh; ((try (simp only [vp_in, Int32.toNatClampNeg, Int32.lt_iff_toInt_lt, Int32.le_iff_toInt_le, ← Int32.toInt_inj, Int32.toInt_add, Int32.toInt_sub, Int32.toInt_mul, Int32.reduceToInt, i32_neg1, Nat.reducePow, Int.reducePow, ne_eq, ge_iff_le, gt_iff_lt] at *)) <;> (first | omega | ((simp (disch := omega) only [bm32] at *) <;> omega))))]
  · rename_i h
    split
    · rename_i g; rw [if_neg (fun hh : Is N x => by unfold Is at hh; ((try (simp only [vp_in, Int32.toNatClampNeg, Int32.lt_iff_toInt_lt, Int32.le_iff_toInt_le, ← Int32.toInt_inj, Int32.toInt_add, Int32.toInt_sub, Int32.toInt_mul, Int32.reduceToInt, i32_neg1, Nat.reducePow, Int.reducePow, ne_eq, ge_iff_le, gt_iff_lt] at *)) <;> (first | omega | ((simp (disch := omega) only [bm32] at *) <;> omega))))]
    · rename_i g; rw [if_pos (show Is N x from by unfold Is; ((try (simp only [vp_in, Int32.toNatClampNeg, Int32.lt_iff_toInt_lt, Int32.le_iff_toInt_le, ← Int32.toInt_inj, Int32.toInt_add, Int32.toInt_sub, Int32.toInt_mul, Int32.reduceToInt, i32_neg1, Nat.reducePow, Int.reducePow, ne_eq, ge_iff_le, gt_iff_lt] at *)) <;> (first | omega | ((simp (disch := omega) only [bm32] at *) <;> omega))))]
theorem isType_F {σ : mSt} {T : Nat} (hT : (σ.1 3).toInt = T) (x : Int32) : F_Mo_isType σ x = (@ite _ (Is T x) (dIs T x) 1 0, σ) := by
  unfold F_Mo_isType
  split
  · rename_i h; rw [if_neg (fun hh : Is T x => by unfold Is at hh; ((try (simp only [vp_in, Int32.toNatClampNeg, Int32.lt_iff_toInt_lt, Int32.le_iff_toInt_le, ← Int32.toInt_inj, Int32.toInt_add, Int32.toInt_sub, Int32.toInt_mul, Int32.reduceToInt, i32_neg1, Nat.reducePow, Int.reducePow, ne_eq, ge_iff_le, gt_iff_lt] at *)) <;> (first | omega | ((simp (disch := omega) only [bm32] at *) <;> omega))))]
  · rename_i h
    split
    · rename_i g; rw [if_neg (fun hh : Is T x => by unfold Is at hh; ((try (simp only [vp_in, Int32.toNatClampNeg, Int32.lt_iff_toInt_lt, Int32.le_iff_toInt_le, ← Int32.toInt_inj, Int32.toInt_add, Int32.toInt_sub, Int32.toInt_mul, Int32.reduceToInt, i32_neg1, Nat.reducePow, Int.reducePow, ne_eq, ge_iff_le, gt_iff_lt] at *)) <;> (first | omega | ((simp (disch := omega) only [bm32] at *) <;> omega))))]
    · rename_i g; rw [if_pos (show Is T x from by unfold Is; ((try (simp only [vp_in, Int32.toNatClampNeg, Int32.lt_iff_toInt_lt, Int32.le_iff_toInt_le, ← Int32.toInt_inj, Int32.toInt_add, Int32.toInt_sub, Int32.toInt_mul, Int32.reduceToInt, i32_neg1, Nat.reducePow, Int.reducePow, ne_eq, ge_iff_le, gt_iff_lt] at *)) <;> (first | omega | ((simp (disch := omega) only [bm32] at *) <;> omega))))]
/-- the first N nodes and C clauses, the types, the checking and the run are as they were -/
def Tell (N C : Nat) (σ σ' : mSt) : Prop := (∀ k, k = 3 ∨ 5 ≤ k → σ'.1 k = σ.1 k) ∧ (σ'.2.1 = σ.2.1) ∧ (σ'.2.2.2 = σ.2.2.2) ∧ (∀ k i, 5 ≤ k → k ≤ 15 → i < N → σ'.2.2.1 k i = σ.2.2.1 k i) ∧ (∀ k j, 16 ≤ k → k ≤ 19 → j < C → σ'.2.2.1 k j = σ.2.2.1 k j) ∧ (∀ k, 20 ≤ k → k ≠ 24 → k ≠ 25 → σ'.2.2.1 k = σ.2.2.1 k)
theorem Tell.f {N C : Nat} {σ σ' : mSt} (self : Tell N C σ σ') : ∀ k, k = 3 ∨ 5 ≤ k → σ'.1 k = σ.1 k := self.1
theorem Tell.l {N C : Nat} {σ σ' : mSt} (self : Tell N C σ σ') : σ'.2.1 = σ.2.1 := self.2.1
theorem Tell.ll {N C : Nat} {σ σ' : mSt} (self : Tell N C σ σ') : σ'.2.2.2 = σ.2.2.2 := self.2.2.1
theorem Tell.nd {N C : Nat} {σ σ' : mSt} (self : Tell N C σ σ') : ∀ k i, 5 ≤ k → k ≤ 15 → i < N → σ'.2.2.1 k i = σ.2.2.1 k i := self.2.2.2.1
theorem Tell.cl {N C : Nat} {σ σ' : mSt} (self : Tell N C σ σ') : ∀ k j, 16 ≤ k → k ≤ 19 → j < C → σ'.2.2.1 k j = σ.2.2.1 k j := self.2.2.2.2.1
theorem Tell.a {N C : Nat} {σ σ' : mSt} (self : Tell N C σ σ') : ∀ k, 20 ≤ k → k ≠ 24 → k ≠ 25 → σ'.2.2.1 k = σ.2.2.1 k := self.2.2.2.2.2
def Told (σ : mSt) (N C R T : Nat) (good : Prop) (w : Int32 × mSt) : Prop :=
  (¬ good → w.2 = mo_si σ 4 1) ∧ (good → N = 200 → w.2 = mo_si σ 4 2) ∧ (good → N < 200 → w.1.toInt = N ∧ w.2.1 4 = 0 ∧ NOk w.2 (N + 1) C R T ∧ Tell N C σ w.2 ∧ w.2.2.2.1 24 = σ.2.2.1 24 ∧ w.2.2.2.1 25 = σ.2.2.1 25)
theorem Pn.of {N : Nat} {x : Int32} (h : Is N x) : Pn N x := Or.inr h
theorem Pn.no {N : Nat} : Pn N (-1) := Or.inl rfl
theorem Is.ne {N : Nat} {x : Int32} (h : Is N x) : x ≠ -1 := by unfold Is at h; ((try (simp only [vp_in, Int32.toNatClampNeg, Int32.lt_iff_toInt_lt, Int32.le_iff_toInt_le, ← Int32.toInt_inj, Int32.toInt_add, Int32.toInt_sub, Int32.toInt_mul, Int32.reduceToInt, i32_neg1, Nat.reducePow, Int.reducePow, ne_eq, ge_iff_le, gt_iff_lt] at *)) <;> (first | omega | ((simp (disch := omega) only [bm32] at *) <;> omega)))
theorem newNode {σ σ' σ'' : mSt} {N C R T : Nat} {x1 x3 x4 x5 : Int32} (h : NOk σ N C R T) (hN : N < 200) (p : AddP σ σ' N x1 x3 x4 x5) (h3 : Pn N x3) (h4 : Pn N x4) (h5 : Pn N x5)
    (ef : σ''.1 = σ'.1) (el : σ''.2.1 = σ'.2.1) (ell : σ''.2.2.2 = σ'.2.2.2) (ea : ∀ k i, ¬ (i = N ∧ (k = 6 ∨ k = 7 ∨ k = 8)) → σ''.2.2.1 k i = σ'.2.2.1 k i)
    (hk : 0 ≤ x1.toInt ∧ x1.toInt ≤ 11 ∧ x1.toInt ≠ 8) (ha : 4 ≤ x1.toInt → x3 ≠ -1) (hb : x1.toInt = 4 ∨ x1.toInt = 5 ∨ x1.toInt = 6 ∨ x1.toInt = 8 ∨ x1.toInt = 9 ∨ x1.toInt = 10 → x4 ≠ -1) (hc : x1.toInt = 6 → x5 ≠ -1)
    (nm : x1.toInt = 3 ∨ x1.toInt = 4 ∨ x1.toInt = 5 ∨ x1.toInt = 7 ∨ x1.toInt = 8 → Nm (σ''.2.2.1 6 N)) (rc : x1.toInt = 5 → Nm (σ''.2.2.1 7 N) ∧ 3 ≤ (σ''.2.2.1 8 N).toInt ∧ (σ''.2.2.1 8 N).toInt < T) (fn : x1.toInt = 7 → Is T (σ''.2.2.1 7 N)) (pf : x1.toInt = 11 → Is 8 (σ''.2.2.1 6 N)) :
    σ''.1 4 = 0 ∧ NOk σ'' (N + 1) C R T ∧ Tell N C σ σ'' ∧ σ''.2.2.1 24 = σ.2.2.1 24 ∧ σ''.2.2.1 25 = σ.2.2.1 25 := by
  have low : ∀ k i, i < N → σ''.2.2.1 k i = σ.2.2.1 k i := fun k i hi => (ea k i (by omega)).trans (p.a k i (by omega))
  have hi16 : ∀ k, 16 ≤ k → σ''.2.2.1 k = σ.2.2.1 k := fun k hk => funext fun i => (ea k i (by omega)).trans (p.a k i (by omega))
  have hK : K σ'' N = x1.toInt := by unfold K; rw [ea 5 N (by omega), p.k5]
  have e9 : σ''.2.2.1 9 N = x3 := by rw [ea 9 N (by omega), p.k9]
  have e10 : σ''.2.2.1 10 N = x4 := by rw [ea 10 N (by omega), p.k10]
  have e11 : σ''.2.2.1 11 N = x5 := by rw [ea 11 N (by omega), p.k11]
  have e15 : σ''.2.2.1 15 N = 0 := by rw [ea 15 N (by omega), p.k15]
  have eD : Dp σ'' N = Dp σ' N := by unfold Dp; rw [ea 13 N (by omega)]
  have eS : Sz σ'' N = Sz σ' N := by unfold Sz; rw [ea 12 N (by omega)]
  have pd := p.dp
  have pt : ∀ y, Pn N y → dpp σ y < Dp σ' N → Pt σ'' N y := by
    intro y hy hd
    by_cases hm : y = -1
    · exact Or.inl hm
    · rcases hy with hy | ⟨a, b⟩
      · exact absurd hy hm
      · refine Or.inr ⟨a, b, ?_⟩
        rw [eD]
        unfold dpp at hd
        rw [if_neg hm] at hd
        unfold Dp at hd ⊢
        rw [low 13 _ (by omega)]; exact hd
  have szc : ∀ y, Pn N y → sz σ'' y = sz σ y := by
    intro y hy
    unfold sz
    split
    · rfl
    · rcases hy with hy | ⟨a, b⟩
      · contradiction
      · unfold Sz; rw [low 12 _ (by omega)]
  refine ⟨by rw [ef]; exact p.f4, ⟨?_, by omega, ?_, h.hc, ?_, h.hr, ?_, ?_⟩, ⟨?_, ?_, ?_, fun k i _ _ hi => low k i hi, fun k j h1 h2 h3 => by rw [hi16 k h1], fun k hk _ _ => hi16 k (by omega)⟩, hi16 24 (by decide), hi16 25 (by decide)⟩
  · rw [ef, p.f0]; omega
  · rw [ef, p.f 1 (by decide) (by decide)]; exact h.c
  · rw [ef, p.f 2 (by decide) (by decide)]; exact h.r
  · intro i hi
    by_cases hiN : i = N
    · subst hiN
      refine ⟨by rw [hK]; omega, by rw [e9]; exact pt _ h3 pd.2.2.1, by rw [e10]; exact pt _ h4 pd.2.2.2.1, by rw [e11]; exact pt _ h5 pd.2.2.2.2, by rw [hK, e9]; exact ha, by rw [hK, e10]; exact hb, by rw [hK, e11]; exact hc, by rw [hK]; exact nm, by rw [hK]; exact rc, by rw [hK]; exact fn, by rw [hK]; exact pf, by rw [e15]; exact ⟨by decide, fun _ => rfl⟩, ?_, ?_, by rw [eD]; exact ⟨pd.1, pd.2.1⟩, by rw [eS]; exact p.s1, ?_⟩
      · rw [hK]; intro h8; omega
      · rw [hK]; intro h8; omega
      · rw [eS, e9, e10, e11, e15, szc _ h3, szc _ h4, szc _ h5]
        intro hs
        have := p.s2 hs
        show 1 + sz σ x3 + sz σ x4 + sz σ x5 + 0 ≤ Sz σ' i
        omega
    · exact (h.nd i (by omega)).congr (Nat.le_refl _) (Nat.le_refl _) (fun k _ _ j hj => low k j (by omega)) (fun j _ => by rw [hi16 19 (by decide)])
  · intro j hj
    have := h.cl j hj
    refine ⟨?_, ?_, ?_, ?_⟩
    · rw [hi16 16 (by decide)]; exact this.e
    · rw [hi16 17 (by decide)]; exact this.x
    · rw [hi16 18 (by decide)]; exact this.k
    · rw [hi16 19 (by decide)]; have := this.b; omega
  · intro k hk
    rw [ef, p.f k (by omega) (by omega)]
  · rw [el, p.l]
  · rw [ell, p.ll]
theorem add0 {σ : mSt} {k a b c : Int32} : F_Mo_add σ k 0 a b c = (0, mo_si σ 4 1) ∧ S_Mo_add σ k 0 a b c := by
  simp [si_1, si_2, sl_1, sl_2, sl_3, ai_1, ai_2, ai_3, ai_4, al_1, al_2, al_3, al_4, F_Mo_add, S_Mo_add, F_Mo_add_j24, S_Mo_add_j24]
theorem addF {σ : mSt} {k a b c : Int32} (h : (σ.1 0).toInt = 200) : F_Mo_add σ k 1 a b c = (0, mo_si σ 4 2) ∧ S_Mo_add σ k 1 a b c := by
  have : σ.1 0 = 200 := by ((try (simp only [vp_in, Int32.toNatClampNeg, Int32.lt_iff_toInt_lt, Int32.le_iff_toInt_le, ← Int32.toInt_inj, Int32.toInt_add, Int32.toInt_sub, Int32.toInt_mul, Int32.reduceToInt, i32_neg1, Nat.reducePow, Int.reducePow, ne_eq, ge_iff_le, gt_iff_lt] at *)) <;> (first | omega | ((simp (disch := omega) only [bm32] at *) <;> omega)))
  simp [si_1, si_2, sl_1, sl_2, sl_3, ai_1, ai_2, ai_3, ai_4, al_1, al_2, al_3, al_4, F_Mo_add, S_Mo_add, F_Mo_add_j24, S_Mo_add_j24, this]
theorem addN {σ : mSt} {N : Nat} {k a b c : Int32} (h : (σ.1 0).toInt = N) (hN : N < 200) : F_Mo_add σ k 1 a b c = F_Mo_add_j24 σ k a b c 0 ∧ (S_Mo_add_j24 σ k a b c 0 → S_Mo_add σ k 1 a b c) := by
  have : ¬ σ.1 0 = 200 := by ((try (simp only [vp_in, Int32.toNatClampNeg, Int32.lt_iff_toInt_lt, Int32.le_iff_toInt_le, ← Int32.toInt_inj, Int32.toInt_add, Int32.toInt_sub, Int32.toInt_mul, Int32.reduceToInt, i32_neg1, Nat.reducePow, Int.reducePow, ne_eq, ge_iff_le, gt_iff_lt] at *)) <;> (first | omega | ((simp (disch := omega) only [bm32] at *) <;> omega)))
  simp [si_1, si_2, sl_1, sl_2, sl_3, ai_1, ai_2, ai_3, ai_4, al_1, al_2, al_3, al_4, F_Mo_add, S_Mo_add, this]
end
section
theorem add0F {σ : mSt} {k a b c : Int32} : F_Mo_add σ k 0 a b c = (0, mo_si σ 4 1) := add0.1
theorem add0S {σ : mSt} {k a b c : Int32} : S_Mo_add σ k 0 a b c := add0.2
theorem two_ix {x : Int32} : (¬ x < 0 ∧ ¬ 4 < x) ↔ Is 5 x := by unfold Is; constructor <;> (intro h; ((try (simp only [vp_in, Int32.toNatClampNeg, Int32.lt_iff_toInt_lt, Int32.le_iff_toInt_le, ← Int32.toInt_inj, Int32.toInt_add, Int32.toInt_sub, Int32.toInt_mul, Int32.reduceToInt, i32_neg1, Nat.reducePow, Int.reducePow, ne_eq, ge_iff_le, gt_iff_lt] at *)) <;> (first | omega | ((simp (disch := omega) only [bm32] at *) <;> omega))))
theorem let_ok {σ : mSt} {N C R T : Nat} (h : NOk σ N C R T) {x1 x2 x3 : Int32} : S_Mo_let σ x1 x2 x3 ∧ Told σ N C R T (Nm x1 ∧ Is N x2 ∧ Is N x3) (F_Mo_let σ x1 x2 x3) := by
  have h0 := h.n
  have hn := h.hn
  by_cases a : Nm x1 <;> by_cases b : Is N x2 <;> by_cases c : Is N x3
  case pos =>
    by_cases hN : N < 200
    · obtain ⟨sn, rn, pn⟩ := add_new h hN (x1 := 4) (Pn.of b) (Pn.of c) Pn.no
      obtain ⟨e1, e2⟩ := addN (k := 4) (a := x2) (b := x3) (c := (-1)) h0 hN
      have e2 := e2 sn
      have f4 := pn.f4
      simp only [S_Mo_let, F_Mo_let, S_Mo_let_j30, F_Mo_let_j30, S_Mo_let_j29, F_Mo_let_j29, isName_F, isEffect_F, isNode_F h0, isName_S, isNode_S, isEffect_S, isType_S, mbind_eq, if_pos a, if_pos b, if_pos c, e1, e2, f4, if_true, true_and, if_neg (show ¬ (1 : Int32) = 0 by decide)]
      generalize F_Mo_add_j24 σ 4 x2 x3 (-1) 0 = w at *
      have hw : w.1.toNatClampNeg = N := by ((try (simp only [vp_in, Int32.toNatClampNeg, Int32.lt_iff_toInt_lt, Int32.le_iff_toInt_le, ← Int32.toInt_inj, Int32.toInt_add, Int32.toInt_sub, Int32.toInt_mul, Int32.reduceToInt, i32_neg1, Nat.reducePow, Int.reducePow, ne_eq, ge_iff_le, gt_iff_lt] at *)) <;> (first | omega | ((simp (disch := omega) only [bm32] at *) <;> omega)))
      have hv : vp_in w.1 200 := by ((try (simp only [vp_in, Int32.toNatClampNeg, Int32.lt_iff_toInt_lt, Int32.le_iff_toInt_le, ← Int32.toInt_inj, Int32.toInt_add, Int32.toInt_sub, Int32.toInt_mul, Int32.reduceToInt, i32_neg1, Nat.reducePow, Int.reducePow, ne_eq, ge_iff_le, gt_iff_lt] at *)) <;> (first | omega | ((simp (disch := omega) only [bm32] at *) <;> omega)))
      refine ⟨⟨hv, trivial⟩, fun g => absurd ⟨a, b, c⟩ g, fun _ g => absurd g (by omega), fun _ _ => ⟨rn, newNode h hN pn (Pn.of b) (Pn.of c) Pn.no rfl rfl rfl (fun k i hk => by rw [ai_3, if_neg (by omega)]) (by decide) (fun _ => b.ne) (fun _ => c.ne) (fun hh => absurd hh (by decide)) (fun _ => by simpa [si_1, si_2, sl_1, sl_2, sl_3, ai_1, ai_2, ai_3, ai_4, al_1, al_2, al_3, al_4, hw] using a) (fun hh => absurd hh (by decide)) (fun hh => absurd hh (by decide)) (fun hh => absurd hh (by decide))⟩⟩
    · have h200 : N = 200 := by omega
      have hF : ∀ k a b c, F_Mo_add σ k 1 a b c = (0, mo_si σ 4 2) := fun _ _ _ _ => (addF (by omega)).1
      have hS : ∀ k a b c, S_Mo_add σ k 1 a b c := fun _ _ _ _ => (addF (by omega)).2
      simp [si_1, si_2, sl_1, sl_2, sl_3, ai_1, ai_2, ai_3, ai_4, al_1, al_2, al_3, al_4, S_Mo_let, F_Mo_let, S_Mo_let_j30, F_Mo_let_j30, S_Mo_let_j29, F_Mo_let_j29, isName_F, isEffect_F, isNode_F h0, isName_S, isNode_S, isEffect_S, isType_S, mbind_eq, a, b, c, hF, hS, Told, hN]
  all_goals simp [si_1, si_2, sl_1, sl_2, sl_3, ai_1, ai_2, ai_3, ai_4, al_1, al_2, al_3, al_4, S_Mo_let, F_Mo_let, S_Mo_let_j30, F_Mo_let_j30, S_Mo_let_j29, F_Mo_let_j29, isName_F, isEffect_F, isNode_F h0, isName_S, isNode_S, isEffect_S, isType_S, mbind_eq, a, b, c, add0F, add0S, Told]
theorem choice_ok {σ : mSt} {N C R T : Nat} (h : NOk σ N C R T) {x1 x2 x3 : Int32} : S_Mo_choice σ x1 x2 x3 ∧ Told σ N C R T (Is N x1 ∧ Is N x2 ∧ Is N x3) (F_Mo_choice σ x1 x2 x3) := by
  have h0 := h.n
  have hn := h.hn
  by_cases a : Is N x1 <;> by_cases b : Is N x2 <;> by_cases c : Is N x3
  case pos =>
    by_cases hN : N < 200
    · obtain ⟨sn, rn, pn⟩ := add_new h hN (x1 := 6) (Pn.of a) (Pn.of b) (Pn.of c)
      obtain ⟨e1, e2⟩ := addN (k := 6) (a := x1) (b := x2) (c := x3) h0 hN
      have e2 := e2 sn
      have f4 := pn.f4
      simp only [S_Mo_choice, F_Mo_choice, S_Mo_choice_j31, F_Mo_choice_j31, isName_F, isEffect_F, isNode_F h0, isName_S, isNode_S, isEffect_S, isType_S, mbind_eq, if_pos a, if_pos b, if_pos c, e1, e2, f4, if_true, true_and, if_neg (show ¬ (1 : Int32) = 0 by decide)]
      generalize F_Mo_add_j24 σ 6 x1 x2 x3 0 = w at *
      have hw : w.1.toNatClampNeg = N := by ((try (simp only [vp_in, Int32.toNatClampNeg, Int32.lt_iff_toInt_lt, Int32.le_iff_toInt_le, ← Int32.toInt_inj, Int32.toInt_add, Int32.toInt_sub, Int32.toInt_mul, Int32.reduceToInt, i32_neg1, Nat.reducePow, Int.reducePow, ne_eq, ge_iff_le, gt_iff_lt] at *)) <;> (first | omega | ((simp (disch := omega) only [bm32] at *) <;> omega)))
      have hv : vp_in w.1 200 := by ((try (simp only [vp_in, Int32.toNatClampNeg, Int32.lt_iff_toInt_lt, Int32.le_iff_toInt_le, ← Int32.toInt_inj, Int32.toInt_add, Int32.toInt_sub, Int32.toInt_mul, Int32.reduceToInt, i32_neg1, Nat.reducePow, Int.reducePow, ne_eq, ge_iff_le, gt_iff_lt] at *)) <;> (first | omega | ((simp (disch := omega) only [bm32] at *) <;> omega)))
      refine ⟨fun g => absurd ⟨a, b, c⟩ g, fun _ g => absurd g (by omega), fun _ _ => ⟨rn, newNode h hN pn (Pn.of a) (Pn.of b) (Pn.of c) rfl rfl rfl (fun k i hk => rfl) (by decide) (fun _ => a.ne) (fun _ => b.ne) (fun _ => c.ne) (fun hh => absurd hh (by decide)) (fun hh => absurd hh (by decide)) (fun hh => absurd hh (by decide)) (fun hh => absurd hh (by decide))⟩⟩
    · have h200 : N = 200 := by omega
      have hF : ∀ k a b c, F_Mo_add σ k 1 a b c = (0, mo_si σ 4 2) := fun _ _ _ _ => (addF (by omega)).1
      have hS : ∀ k a b c, S_Mo_add σ k 1 a b c := fun _ _ _ _ => (addF (by omega)).2
      simp [si_1, si_2, sl_1, sl_2, sl_3, ai_1, ai_2, ai_3, ai_4, al_1, al_2, al_3, al_4, S_Mo_choice, F_Mo_choice, S_Mo_choice_j31, F_Mo_choice_j31, isName_F, isEffect_F, isNode_F h0, isName_S, isNode_S, isEffect_S, isType_S, mbind_eq, a, b, c, hF, hS, Told, hN]
  all_goals simp [si_1, si_2, sl_1, sl_2, sl_3, ai_1, ai_2, ai_3, ai_4, al_1, al_2, al_3, al_4, S_Mo_choice, F_Mo_choice, S_Mo_choice_j31, F_Mo_choice_j31, isName_F, isEffect_F, isNode_F h0, isName_S, isNode_S, isEffect_S, isType_S, mbind_eq, a, b, c, add0F, add0S, Told]
theorem fn_ok {σ : mSt} {N C R T : Nat} (h : NOk σ N C R T) (hT : (σ.1 3).toInt = T) {x1 x2 x3 : Int32} : S_Mo_fn σ x1 x2 x3 ∧ Told σ N C R T (Nm x1 ∧ Is T x2 ∧ Is N x3) (F_Mo_fn σ x1 x2 x3) := by
  have h0 := h.n
  have hn := h.hn
  by_cases a : Nm x1 <;> by_cases b : Is T x2 <;> by_cases c : Is N x3
  case pos =>
    by_cases hN : N < 200
    · obtain ⟨sn, rn, pn⟩ := add_new h hN (x1 := 7) (Pn.of c) Pn.no Pn.no
      obtain ⟨e1, e2⟩ := addN (k := 7) (a := x3) (b := (-1)) (c := (-1)) h0 hN
      have e2 := e2 sn
      have f4 := pn.f4
      simp only [S_Mo_fn, F_Mo_fn, S_Mo_fn_j31, F_Mo_fn_j31, S_Mo_fn_j30, F_Mo_fn_j30, isName_F, isEffect_F, isNode_F h0, isName_S, isNode_S, isEffect_S, isType_S, isType_F hT, mbind_eq, if_pos a, if_pos b, if_pos c, e1, e2, f4, if_true, true_and, if_neg (show ¬ (1 : Int32) = 0 by decide)]
      generalize F_Mo_add_j24 σ 7 x3 (-1) (-1) 0 = w at *
      have hw : w.1.toNatClampNeg = N := by ((try (simp only [vp_in, Int32.toNatClampNeg, Int32.lt_iff_toInt_lt, Int32.le_iff_toInt_le, ← Int32.toInt_inj, Int32.toInt_add, Int32.toInt_sub, Int32.toInt_mul, Int32.reduceToInt, i32_neg1, Nat.reducePow, Int.reducePow, ne_eq, ge_iff_le, gt_iff_lt] at *)) <;> (first | omega | ((simp (disch := omega) only [bm32] at *) <;> omega)))
      have hv : vp_in w.1 200 := by ((try (simp only [vp_in, Int32.toNatClampNeg, Int32.lt_iff_toInt_lt, Int32.le_iff_toInt_le, ← Int32.toInt_inj, Int32.toInt_add, Int32.toInt_sub, Int32.toInt_mul, Int32.reduceToInt, i32_neg1, Nat.reducePow, Int.reducePow, ne_eq, ge_iff_le, gt_iff_lt] at *)) <;> (first | omega | ((simp (disch := omega) only [bm32] at *) <;> omega)))
      refine ⟨⟨hv, hv, trivial⟩, fun g => absurd ⟨a, b, c⟩ g, fun _ g => absurd g (by omega), fun _ _ => ⟨rn, newNode h hN pn (Pn.of c) Pn.no Pn.no rfl rfl rfl (fun k i hk => by rw [ai_3, if_neg (by omega)]; rw [ai_3, if_neg (by omega)]) (by decide) (fun _ => c.ne) (fun hh => absurd hh (by decide)) (fun hh => absurd hh (by decide)) (fun _ => by simpa [si_1, si_2, sl_1, sl_2, sl_3, ai_1, ai_2, ai_3, ai_4, al_1, al_2, al_3, al_4, hw] using a) (fun hh => absurd hh (by decide)) (fun _ => by simpa [si_1, si_2, sl_1, sl_2, sl_3, ai_1, ai_2, ai_3, ai_4, al_1, al_2, al_3, al_4, hw] using b) (fun hh => absurd hh (by decide))⟩⟩
    · have h200 : N = 200 := by omega
      have hF : ∀ k a b c, F_Mo_add σ k 1 a b c = (0, mo_si σ 4 2) := fun _ _ _ _ => (addF (by omega)).1
      have hS : ∀ k a b c, S_Mo_add σ k 1 a b c := fun _ _ _ _ => (addF (by omega)).2
      simp [si_1, si_2, sl_1, sl_2, sl_3, ai_1, ai_2, ai_3, ai_4, al_1, al_2, al_3, al_4, S_Mo_fn, F_Mo_fn, S_Mo_fn_j31, F_Mo_fn_j31, S_Mo_fn_j30, F_Mo_fn_j30, isName_F, isEffect_F, isNode_F h0, isName_S, isNode_S, isEffect_S, isType_S, isType_F hT, mbind_eq, a, b, c, hF, hS, Told, hN]
  all_goals simp [si_1, si_2, sl_1, sl_2, sl_3, ai_1, ai_2, ai_3, ai_4, al_1, al_2, al_3, al_4, S_Mo_fn, F_Mo_fn, S_Mo_fn_j31, F_Mo_fn_j31, S_Mo_fn_j30, F_Mo_fn_j30, isName_F, isEffect_F, isNode_F h0, isName_S, isNode_S, isEffect_S, isType_S, isType_F hT, mbind_eq, a, b, c, add0F, add0S, Told]
theorem two_ok {σ : mSt} {N C R T : Nat} (h : NOk σ N C R T) {x1 x2 x3 : Int32} : S_Mo_two σ x1 x2 x3 ∧ Told σ N C R T (Is 5 x1 ∧ Is N x2 ∧ Is N x3) (F_Mo_two σ x1 x2 x3) := by
  have h0 := h.n
  have hn := h.hn
  by_cases a : Is 5 x1 <;> by_cases b : Is N x2 <;> by_cases c : Is N x3
  all_goals (first | (have a' := two_ix.mpr a; obtain ⟨a1, a2⟩ := a') | skip)
  case pos =>
    by_cases hN : N < 200
    · obtain ⟨sn, rn, pn⟩ := add_new h hN (x1 := 9) (Pn.of b) (Pn.of c) Pn.no
      obtain ⟨e1, e2⟩ := addN (k := 9) (a := x2) (b := x3) (c := (-1)) h0 hN
      have e2 := e2 sn
      have f4 := pn.f4
      simp only [S_Mo_two, F_Mo_two, S_Mo_two_j33, F_Mo_two_j33, S_Mo_two_j32, F_Mo_two_j32, isName_F, isEffect_F, isNode_F h0, isName_S, isNode_S, isEffect_S, isType_S, mbind_eq, if_pos a, if_pos b, if_pos c, e1, e2, f4, if_true, true_and, if_neg (show ¬ (1 : Int32) = 0 by decide), if_neg a1, if_neg a2]
      generalize F_Mo_add_j24 σ 9 x2 x3 (-1) 0 = w at *
      have hw : w.1.toNatClampNeg = N := by ((try (simp only [vp_in, Int32.toNatClampNeg, Int32.lt_iff_toInt_lt, Int32.le_iff_toInt_le, ← Int32.toInt_inj, Int32.toInt_add, Int32.toInt_sub, Int32.toInt_mul, Int32.reduceToInt, i32_neg1, Nat.reducePow, Int.reducePow, ne_eq, ge_iff_le, gt_iff_lt] at *)) <;> (first | omega | ((simp (disch := omega) only [bm32] at *) <;> omega)))
      have hv : vp_in w.1 200 := by ((try (simp only [vp_in, Int32.toNatClampNeg, Int32.lt_iff_toInt_lt, Int32.le_iff_toInt_le, ← Int32.toInt_inj, Int32.toInt_add, Int32.toInt_sub, Int32.toInt_mul, Int32.reduceToInt, i32_neg1, Nat.reducePow, Int.reducePow, ne_eq, ge_iff_le, gt_iff_lt] at *)) <;> (first | omega | ((simp (disch := omega) only [bm32] at *) <;> omega)))
      refine ⟨⟨hv, trivial⟩, fun g => absurd ⟨a, b, c⟩ g, fun _ g => absurd g (by omega), fun _ _ => ⟨rn, newNode h hN pn (Pn.of b) (Pn.of c) Pn.no rfl rfl rfl (fun k i hk => by rw [ai_3, if_neg (by omega)]) (by decide) (fun _ => b.ne) (fun _ => c.ne) (fun hh => absurd hh (by decide)) (fun hh => absurd hh (by decide)) (fun hh => absurd hh (by decide)) (fun hh => absurd hh (by decide)) (fun hh => absurd hh (by decide))⟩⟩
    · have h200 : N = 200 := by omega
      have hF : ∀ k a b c, F_Mo_add σ k 1 a b c = (0, mo_si σ 4 2) := fun _ _ _ _ => (addF (by omega)).1
      have hS : ∀ k a b c, S_Mo_add σ k 1 a b c := fun _ _ _ _ => (addF (by omega)).2
      simp [si_1, si_2, sl_1, sl_2, sl_3, ai_1, ai_2, ai_3, ai_4, al_1, al_2, al_3, al_4, S_Mo_two, F_Mo_two, S_Mo_two_j33, F_Mo_two_j33, S_Mo_two_j32, F_Mo_two_j32, isName_F, isEffect_F, isNode_F h0, isName_S, isNode_S, isEffect_S, isType_S, mbind_eq, a, b, c, hF, hS, Told, hN, a1, a2]
  all_goals (first | simp [si_1, si_2, sl_1, sl_2, sl_3, ai_1, ai_2, ai_3, ai_4, al_1, al_2, al_3, al_4, S_Mo_two, F_Mo_two, S_Mo_two_j33, F_Mo_two_j33, S_Mo_two_j32, F_Mo_two_j32, isName_F, isEffect_F, isNode_F h0, isName_S, isNode_S, isEffect_S, isType_S, mbind_eq, a, b, c, add0F, add0S, Told, a1, a2] | (have a' := fun hh => a (two_ix.mp hh); by_cases a1 : x1 < 0 <;> by_cases a2 : 4 < x1 <;> first | (simp [si_1, si_2, sl_1, sl_2, sl_3, ai_1, ai_2, ai_3, ai_4, al_1, al_2, al_3, al_4, S_Mo_two, F_Mo_two, S_Mo_two_j33, F_Mo_two_j33, S_Mo_two_j32, F_Mo_two_j32, isName_F, isEffect_F, isNode_F h0, isName_S, isNode_S, isEffect_S, isType_S, mbind_eq, a, b, c, add0F, add0S, Told, a1, a2]; done) | (exact absurd ⟨a1, a2⟩ a')))
theorem call_ok {σ : mSt} {N C R T : Nat} (h : NOk σ N C R T) {x1 x2 : Int32} : S_Mo_call σ x1 x2 ∧ Told σ N C R T (Is N x1 ∧ Is N x2) (F_Mo_call σ x1 x2) := by
  have h0 := h.n
  have hn := h.hn
  by_cases a : Is N x1 <;> by_cases b : Is N x2
  case pos =>
    by_cases hN : N < 200
    · obtain ⟨sn, rn, pn⟩ := add_new h hN (x1 := 10) (Pn.of a) (Pn.of b) Pn.no
      obtain ⟨e1, e2⟩ := addN (k := 10) (a := x1) (b := x2) (c := (-1)) h0 hN
      have e2 := e2 sn
      have f4 := pn.f4
      simp only [S_Mo_call, F_Mo_call, S_Mo_call_j23, F_Mo_call_j23, isName_F, isEffect_F, isNode_F h0, isName_S, isNode_S, isEffect_S, isType_S, mbind_eq, if_pos a, if_pos b, e1, e2, f4, if_true, true_and, if_neg (show ¬ (1 : Int32) = 0 by decide)]
      generalize F_Mo_add_j24 σ 10 x1 x2 (-1) 0 = w at *
      have hw : w.1.toNatClampNeg = N := by ((try (simp only [vp_in, Int32.toNatClampNeg, Int32.lt_iff_toInt_lt, Int32.le_iff_toInt_le, ← Int32.toInt_inj, Int32.toInt_add, Int32.toInt_sub, Int32.toInt_mul, Int32.reduceToInt, i32_neg1, Nat.reducePow, Int.reducePow, ne_eq, ge_iff_le, gt_iff_lt] at *)) <;> (first | omega | ((simp (disch := omega) only [bm32] at *) <;> omega)))
      have hv : vp_in w.1 200 := by ((try (simp only [vp_in, Int32.toNatClampNeg, Int32.lt_iff_toInt_lt, Int32.le_iff_toInt_le, ← Int32.toInt_inj, Int32.toInt_add, Int32.toInt_sub, Int32.toInt_mul, Int32.reduceToInt, i32_neg1, Nat.reducePow, Int.reducePow, ne_eq, ge_iff_le, gt_iff_lt] at *)) <;> (first | omega | ((simp (disch := omega) only [bm32] at *) <;> omega)))
      refine ⟨fun g => absurd ⟨a, b⟩ g, fun _ g => absurd g (by omega), fun _ _ => ⟨rn, newNode h hN pn (Pn.of a) (Pn.of b) Pn.no rfl rfl rfl (fun k i hk => rfl) (by decide) (fun _ => a.ne) (fun _ => b.ne) (fun hh => absurd hh (by decide)) (fun hh => absurd hh (by decide)) (fun hh => absurd hh (by decide)) (fun hh => absurd hh (by decide)) (fun hh => absurd hh (by decide))⟩⟩
    · have h200 : N = 200 := by omega
      have hF : ∀ k a b c, F_Mo_add σ k 1 a b c = (0, mo_si σ 4 2) := fun _ _ _ _ => (addF (by omega)).1
      have hS : ∀ k a b c, S_Mo_add σ k 1 a b c := fun _ _ _ _ => (addF (by omega)).2
      simp [si_1, si_2, sl_1, sl_2, sl_3, ai_1, ai_2, ai_3, ai_4, al_1, al_2, al_3, al_4, S_Mo_call, F_Mo_call, S_Mo_call_j23, F_Mo_call_j23, isName_F, isEffect_F, isNode_F h0, isName_S, isNode_S, isEffect_S, isType_S, mbind_eq, a, b, hF, hS, Told, hN]
  all_goals simp [si_1, si_2, sl_1, sl_2, sl_3, ai_1, ai_2, ai_3, ai_4, al_1, al_2, al_3, al_4, S_Mo_call, F_Mo_call, S_Mo_call_j23, F_Mo_call_j23, isName_F, isEffect_F, isNode_F h0, isName_S, isNode_S, isEffect_S, isType_S, mbind_eq, a, b, add0F, add0S, Told]
theorem perform_ok {σ : mSt} {N C R T : Nat} (h : NOk σ N C R T) {x1 x2 : Int32} : S_Mo_perform σ x1 x2 ∧ Told σ N C R T (Is 8 x1 ∧ Is N x2) (F_Mo_perform σ x1 x2) := by
  have h0 := h.n
  have hn := h.hn
  by_cases a : Is 8 x1 <;> by_cases b : Is N x2
  case pos =>
    by_cases hN : N < 200
    · obtain ⟨sn, rn, pn⟩ := add_new h hN (x1 := 11) (Pn.of b) Pn.no Pn.no
      obtain ⟨e1, e2⟩ := addN (k := 11) (a := x2) (b := (-1)) (c := (-1)) h0 hN
      have e2 := e2 sn
      have f4 := pn.f4
      simp only [S_Mo_perform, F_Mo_perform, S_Mo_perform_j23, F_Mo_perform_j23, S_Mo_perform_j22, F_Mo_perform_j22, isName_F, isEffect_F, isNode_F h0, isName_S, isNode_S, isEffect_S, isType_S, mbind_eq, if_pos a, if_pos b, e1, e2, f4, if_true, true_and, if_neg (show ¬ (1 : Int32) = 0 by decide)]
      generalize F_Mo_add_j24 σ 11 x2 (-1) (-1) 0 = w at *
      have hw : w.1.toNatClampNeg = N := by ((try (simp only [vp_in, Int32.toNatClampNeg, Int32.lt_iff_toInt_lt, Int32.le_iff_toInt_le, ← Int32.toInt_inj, Int32.toInt_add, Int32.toInt_sub, Int32.toInt_mul, Int32.reduceToInt, i32_neg1, Nat.reducePow, Int.reducePow, ne_eq, ge_iff_le, gt_iff_lt] at *)) <;> (first | omega | ((simp (disch := omega) only [bm32] at *) <;> omega)))
      have hv : vp_in w.1 200 := by ((try (simp only [vp_in, Int32.toNatClampNeg, Int32.lt_iff_toInt_lt, Int32.le_iff_toInt_le, ← Int32.toInt_inj, Int32.toInt_add, Int32.toInt_sub, Int32.toInt_mul, Int32.reduceToInt, i32_neg1, Nat.reducePow, Int.reducePow, ne_eq, ge_iff_le, gt_iff_lt] at *)) <;> (first | omega | ((simp (disch := omega) only [bm32] at *) <;> omega)))
      refine ⟨⟨hv, trivial⟩, fun g => absurd ⟨a, b⟩ g, fun _ g => absurd g (by omega), fun _ _ => ⟨rn, newNode h hN pn (Pn.of b) Pn.no Pn.no rfl rfl rfl (fun k i hk => by rw [ai_3, if_neg (by omega)]) (by decide) (fun _ => b.ne) (fun hh => absurd hh (by decide)) (fun hh => absurd hh (by decide)) (fun hh => absurd hh (by decide)) (fun hh => absurd hh (by decide)) (fun hh => absurd hh (by decide)) (fun _ => by simpa [si_1, si_2, sl_1, sl_2, sl_3, ai_1, ai_2, ai_3, ai_4, al_1, al_2, al_3, al_4, hw] using a)⟩⟩
    · have h200 : N = 200 := by omega
      have hF : ∀ k a b c, F_Mo_add σ k 1 a b c = (0, mo_si σ 4 2) := fun _ _ _ _ => (addF (by omega)).1
      have hS : ∀ k a b c, S_Mo_add σ k 1 a b c := fun _ _ _ _ => (addF (by omega)).2
      simp [si_1, si_2, sl_1, sl_2, sl_3, ai_1, ai_2, ai_3, ai_4, al_1, al_2, al_3, al_4, S_Mo_perform, F_Mo_perform, S_Mo_perform_j23, F_Mo_perform_j23, S_Mo_perform_j22, F_Mo_perform_j22, isName_F, isEffect_F, isNode_F h0, isName_S, isNode_S, isEffect_S, isType_S, mbind_eq, a, b, hF, hS, Told, hN]
  all_goals simp [si_1, si_2, sl_1, sl_2, sl_3, ai_1, ai_2, ai_3, ai_4, al_1, al_2, al_3, al_4, S_Mo_perform, F_Mo_perform, S_Mo_perform_j23, F_Mo_perform_j23, S_Mo_perform_j22, F_Mo_perform_j22, isName_F, isEffect_F, isNode_F h0, isName_S, isNode_S, isEffect_S, isType_S, mbind_eq, a, b, add0F, add0S, Told]
end
section
def FnT (T : Nat) (x : Int32) : Prop := 3 ≤ x.toInt ∧ x.toInt < T
theorem rec_ok {σ : mSt} {N C R T : Nat} (h : NOk σ N C R T) (hT : (σ.1 3).toInt = T) {x1 x2 x3 x4 x5 : Int32} : S_Mo_rec σ x1 x2 x3 x4 x5 ∧ Told σ N C R T (Nm x1 ∧ Nm x2 ∧ FnT T x3 ∧ Is N x4 ∧ Is N x5) (F_Mo_rec σ x1 x2 x3 x4 x5) := by
  have h0 := h.n
  have hn := h.hn
  by_cases c : FnT T x3
  · have c1 : ¬ x3 < 3 := by unfold FnT at c; ((try (simp only [vp_in, Int32.toNatClampNeg, Int32.lt_iff_toInt_lt, Int32.le_iff_toInt_le, ← Int32.toInt_inj, Int32.toInt_add, Int32.toInt_sub, Int32.toInt_mul, Int32.reduceToInt, i32_neg1, Nat.reducePow, Int.reducePow, ne_eq, ge_iff_le, gt_iff_lt] at *)) <;> (first | omega | ((simp (disch := omega) only [bm32] at *) <;> omega)))
    have c2 : ¬ σ.1 3 ≤ x3 := by unfold FnT at c; ((try (simp only [vp_in, Int32.toNatClampNeg, Int32.lt_iff_toInt_lt, Int32.le_iff_toInt_le, ← Int32.toInt_inj, Int32.toInt_add, Int32.toInt_sub, Int32.toInt_mul, Int32.reduceToInt, i32_neg1, Nat.reducePow, Int.reducePow, ne_eq, ge_iff_le, gt_iff_lt] at *)) <;> (first | omega | ((simp (disch := omega) only [bm32] at *) <;> omega)))
    by_cases a : Nm x1 <;> by_cases b : Nm x2 <;> by_cases d : Is N x4 <;> by_cases e : Is N x5
    case pos =>
      by_cases hN : N < 200
      · obtain ⟨sn, rn, pn⟩ := add_new h hN (x1 := 5) (Pn.of d) (Pn.of e) Pn.no
        obtain ⟨e1, e2⟩ := addN (k := 5) (a := x4) (b := x5) (c := -1) h0 hN
        have e2 := e2 sn
        have f4 := pn.f4
        simp only [S_Mo_rec, F_Mo_rec, S_Mo_rec_j52, F_Mo_rec_j52, isName_F, isNode_F h0, isName_S, isNode_S, mbind_eq, if_pos a, if_pos b, if_pos d, if_pos e, e1, e2, f4, if_true, true_and, if_neg c1, if_neg c2, if_neg (show ¬ (1 : Int32) = 0 by decide)]
        generalize F_Mo_add_j24 σ 5 x4 x5 (-1) 0 = w at *
        have hw : w.1.toNatClampNeg = N := by ((try (simp only [vp_in, Int32.toNatClampNeg, Int32.lt_iff_toInt_lt, Int32.le_iff_toInt_le, ← Int32.toInt_inj, Int32.toInt_add, Int32.toInt_sub, Int32.toInt_mul, Int32.reduceToInt, i32_neg1, Nat.reducePow, Int.reducePow, ne_eq, ge_iff_le, gt_iff_lt] at *)) <;> (first | omega | ((simp (disch := omega) only [bm32] at *) <;> omega)))
        have hv : vp_in w.1 200 := by ((try (simp only [vp_in, Int32.toNatClampNeg, Int32.lt_iff_toInt_lt, Int32.le_iff_toInt_le, ← Int32.toInt_inj, Int32.toInt_add, Int32.toInt_sub, Int32.toInt_mul, Int32.reduceToInt, i32_neg1, Nat.reducePow, Int.reducePow, ne_eq, ge_iff_le, gt_iff_lt] at *)) <;> (first | omega | ((simp (disch := omega) only [bm32] at *) <;> omega)))
        refine ⟨⟨hv, hv, hv, trivial⟩, fun g => absurd ⟨a, b, c, d, e⟩ g, fun _ g => absurd g (by omega), fun _ _ => ⟨rn, newNode h hN pn (Pn.of d) (Pn.of e) Pn.no rfl rfl rfl (fun k i hk => by rw [ai_3, if_neg (by omega), ai_3, if_neg (by omega), ai_3, if_neg (by omega)]) (by decide) (fun _ => d.ne) (fun _ => e.ne) (fun hh => absurd hh (by decide)) (fun _ => by simpa [si_1, si_2, sl_1, sl_2, sl_3, ai_1, ai_2, ai_3, ai_4, al_1, al_2, al_3, al_4, hw] using a) (fun _ => by simpa [si_1, si_2, sl_1, sl_2, sl_3, ai_1, ai_2, ai_3, ai_4, al_1, al_2, al_3, al_4, hw, FnT] using ⟨b, c⟩) (fun hh => absurd hh (by decide)) (fun hh => absurd hh (by decide))⟩⟩
      · have h200 : N = 200 := by omega
        have hF : ∀ k a b c, F_Mo_add σ k 1 a b c = (0, mo_si σ 4 2) := fun _ _ _ _ => (addF (by omega)).1
        have hS : ∀ k a b c, S_Mo_add σ k 1 a b c := fun _ _ _ _ => (addF (by omega)).2
        simp [si_1, si_2, sl_1, sl_2, sl_3, ai_1, ai_2, ai_3, ai_4, al_1, al_2, al_3, al_4, S_Mo_rec, F_Mo_rec, S_Mo_rec_j52, F_Mo_rec_j52, isName_F, isNode_F h0, isName_S, isNode_S, mbind_eq, a, b, c, d, e, hF, hS, Told, hN, c1, c2]
    all_goals simp [si_1, si_2, sl_1, sl_2, sl_3, ai_1, ai_2, ai_3, ai_4, al_1, al_2, al_3, al_4, S_Mo_rec, F_Mo_rec, S_Mo_rec_j52, F_Mo_rec_j52, S_Mo_rec_j51, F_Mo_rec_j51, isName_F, isNode_F h0, isName_S, isNode_S, mbind_eq, a, b, c, d, e, add0F, add0S, Told, c1, c2]
  · by_cases a : Nm x1 <;> by_cases b : Nm x2 <;> by_cases c1 : x3 < 3 <;> by_cases c2 : σ.1 3 ≤ x3
    all_goals first
      | (simp [si_1, si_2, sl_1, sl_2, sl_3, ai_1, ai_2, ai_3, ai_4, al_1, al_2, al_3, al_4, S_Mo_rec, F_Mo_rec, S_Mo_rec_j52, F_Mo_rec_j52, S_Mo_rec_j51, F_Mo_rec_j51, isName_F, isNode_F h0, isName_S, isNode_S, mbind_eq, a, b, c, add0F, add0S, Told, c1, c2]; done)
      | (simp only [S_Mo_rec, F_Mo_rec, isName_F, isName_S, mbind_eq, if_pos a, if_pos b, if_neg c1, if_pos c2, if_neg (show ¬ (1 : Int32) = 0 by decide)]; simp [si_1, si_2, sl_1, sl_2, sl_3, ai_1, ai_2, ai_3, ai_4, al_1, al_2, al_3, al_4, S_Mo_rec_j52, F_Mo_rec_j52, S_Mo_rec_j51, F_Mo_rec_j51, mbind_eq, c, add0F, add0S, Told]; done)
      | (exact absurd (show FnT T x3 by unfold FnT; ((try (simp only [vp_in, Int32.toNatClampNeg, Int32.lt_iff_toInt_lt, Int32.le_iff_toInt_le, ← Int32.toInt_inj, Int32.toInt_add, Int32.toInt_sub, Int32.toInt_mul, Int32.reduceToInt, i32_neg1, Nat.reducePow, Int.reducePow, ne_eq, ge_iff_le, gt_iff_lt] at *)) <;> (first | omega | ((simp (disch := omega) only [bm32] at *) <;> omega)))) c)
/-- what atom takes -/
def AtG (x1 x2 : Int32) : Prop := Is 4 x1 ∧ (x1 = 1 → x2 = 0 ∨ x2 = 1) ∧ (x1 = 3 → Nm x2)
theorem atom_j40 {σ : mSt} {N C R T : Nat} (h : NOk σ N C R T) {x1 x2 : Int32} (g : AtG x1 x2) : S_Mo_atom_j40 σ x1 x2 1 ∧ Told σ N C R T (AtG x1 x2) (F_Mo_atom_j40 σ x1 x2 1) := by
  have h0 := h.n
  have hn := h.hn
  by_cases hN : N < 200
  · obtain ⟨sn, rn, pn⟩ := add_new h hN (x1 := x1) (x3 := -1) (x4 := -1) (x5 := -1) Pn.no Pn.no Pn.no
    obtain ⟨e1, e2⟩ := addN (k := x1) (a := -1) (b := -1) (c := -1) h0 hN
    have e2 := e2 sn
    have f4 := pn.f4
    simp only [S_Mo_atom_j40, F_Mo_atom_j40, mbind_eq, e1, e2, f4, if_true, true_and]
    generalize F_Mo_add_j24 σ x1 (-1) (-1) (-1) 0 = w at *
    have hw : w.1.toNatClampNeg = N := by ((try (simp only [vp_in, Int32.toNatClampNeg, Int32.lt_iff_toInt_lt, Int32.le_iff_toInt_le, ← Int32.toInt_inj, Int32.toInt_add, Int32.toInt_sub, Int32.toInt_mul, Int32.reduceToInt, i32_neg1, Nat.reducePow, Int.reducePow, ne_eq, ge_iff_le, gt_iff_lt] at *)) <;> (first | omega | ((simp (disch := omega) only [bm32] at *) <;> omega)))
    have hv : vp_in w.1 200 := by ((try (simp only [vp_in, Int32.toNatClampNeg, Int32.lt_iff_toInt_lt, Int32.le_iff_toInt_le, ← Int32.toInt_inj, Int32.toInt_add, Int32.toInt_sub, Int32.toInt_mul, Int32.reduceToInt, i32_neg1, Nat.reducePow, Int.reducePow, ne_eq, ge_iff_le, gt_iff_lt] at *)) <;> (first | omega | ((simp (disch := omega) only [bm32] at *) <;> omega)))
    have g1 := g.1
    unfold Is at g1
    refine ⟨⟨hv, trivial⟩, fun gg => absurd g gg, fun _ g => absurd g (by omega), fun _ _ => ⟨rn, newNode h hN pn Pn.no Pn.no Pn.no rfl rfl rfl (fun k i hk => by rw [ai_3, if_neg (by omega)]) (by omega) (fun hh => by omega) (fun hh => by omega) (fun hh => by omega) (fun hh => by simpa [si_1, si_2, sl_1, sl_2, sl_3, ai_1, ai_2, ai_3, ai_4, al_1, al_2, al_3, al_4, hw] using g.2.2 (by ((try (simp only [vp_in, Int32.toNatClampNeg, Int32.lt_iff_toInt_lt, Int32.le_iff_toInt_le, ← Int32.toInt_inj, Int32.toInt_add, Int32.toInt_sub, Int32.toInt_mul, Int32.reduceToInt, i32_neg1, Nat.reducePow, Int.reducePow, ne_eq, ge_iff_le, gt_iff_lt] at *)) <;> (first | omega | ((simp (disch := omega) only [bm32] at *) <;> omega))))) (fun hh => by omega) (fun hh => by omega) (fun hh => by omega)⟩⟩
  · have h200 : N = 200 := by omega
    have hF : ∀ k a b c, F_Mo_add σ k 1 a b c = (0, mo_si σ 4 2) := fun _ _ _ _ => (addF (by omega)).1
    have hS : ∀ k a b c, S_Mo_add σ k 1 a b c := fun _ _ _ _ => (addF (by omega)).2
    simp [si_1, si_2, sl_1, sl_2, sl_3, ai_1, ai_2, ai_3, ai_4, al_1, al_2, al_3, al_4, S_Mo_atom_j40, F_Mo_atom_j40, mbind_eq, hF, hS, Told, hN, g]
theorem atom_bad {σ : mSt} {N C R T : Nat} {x1 x2 : Int32} (g : ¬ AtG x1 x2) : S_Mo_atom_j40 σ x1 x2 0 ∧ Told σ N C R T (AtG x1 x2) (F_Mo_atom_j40 σ x1 x2 0) := by
  simp [si_1, si_2, sl_1, sl_2, sl_3, ai_1, ai_2, ai_3, ai_4, al_1, al_2, al_3, al_4, S_Mo_atom_j40, F_Mo_atom_j40, mbind_eq, add0F, add0S, Told, g]
theorem atom_ok {σ : mSt} {N C R T : Nat} (h : NOk σ N C R T) {x1 x2 : Int32} : S_Mo_atom σ x1 x2 ∧ Told σ N C R T (AtG x1 x2) (F_Mo_atom σ x1 x2) := by
  have j23 : (Is 4 x1 ∧ (x1 = 1 → x2 = 0 ∨ x2 = 1)) → S_Mo_atom_j23 σ x1 x2 ∧ Told σ N C R T (AtG x1 x2) (F_Mo_atom_j23 σ x1 x2) := by
    intro g
    simp only [S_Mo_atom_j23, F_Mo_atom_j23, S_Mo_atom_j39, F_Mo_atom_j39, S_Mo_atom_j35, F_Mo_atom_j35, isName_F, isName_S, mbind_eq, true_and]
    by_cases h3 : x1 = 3
    · rw [if_pos h3, if_pos h3]
      by_cases hx : Nm x2
      · rw [if_pos hx, if_neg (by decide), if_neg (by decide)]
        exact atom_j40 h ⟨g.1, g.2, fun _ => hx⟩
      · rw [if_neg hx, if_pos rfl, if_pos rfl]
        exact atom_bad (fun gg => hx (gg.2.2 h3))
    · rw [if_neg h3, if_neg h3]
      exact atom_j40 h ⟨g.1, g.2, fun hh => absurd hh h3⟩
  simp only [S_Mo_atom, F_Mo_atom, S_Mo_atom_j39, F_Mo_atom_j39]
  by_cases a : x1 < 0
  · rw [if_pos a, if_pos a]
    exact atom_bad (fun gg => by have := gg.1; unfold Is at this; ((try (simp only [vp_in, Int32.toNatClampNeg, Int32.lt_iff_toInt_lt, Int32.le_iff_toInt_le, ← Int32.toInt_inj, Int32.toInt_add, Int32.toInt_sub, Int32.toInt_mul, Int32.reduceToInt, i32_neg1, Nat.reducePow, Int.reducePow, ne_eq, ge_iff_le, gt_iff_lt] at *)) <;> (first | omega | ((simp (disch := omega) only [bm32] at *) <;> omega))))
  rw [if_neg a, if_neg a]
  by_cases b : 3 < x1
  · rw [if_pos b, if_pos b]
    exact atom_bad (fun gg => by have := gg.1; unfold Is at this; ((try (simp only [vp_in, Int32.toNatClampNeg, Int32.lt_iff_toInt_lt, Int32.le_iff_toInt_le, ← Int32.toInt_inj, Int32.toInt_add, Int32.toInt_sub, Int32.toInt_mul, Int32.reduceToInt, i32_neg1, Nat.reducePow, Int.reducePow, ne_eq, ge_iff_le, gt_iff_lt] at *)) <;> (first | omega | ((simp (disch := omega) only [bm32] at *) <;> omega))))
  rw [if_neg b, if_neg b]
  have h4 : Is 4 x1 := by unfold Is; ((try (simp only [vp_in, Int32.toNatClampNeg, Int32.lt_iff_toInt_lt, Int32.le_iff_toInt_le, ← Int32.toInt_inj, Int32.toInt_add, Int32.toInt_sub, Int32.toInt_mul, Int32.reduceToInt, i32_neg1, Nat.reducePow, Int.reducePow, ne_eq, ge_iff_le, gt_iff_lt] at *)) <;> (first | omega | ((simp (disch := omega) only [bm32] at *) <;> omega)))
  by_cases c : x1 = 1
  · rw [if_pos c, if_pos c]
    by_cases d : x2 = 0
    · rw [if_pos d, if_pos d]; exact j23 ⟨h4, fun _ => Or.inl d⟩
    rw [if_neg d, if_neg d]
    by_cases e : x2 = 1
    · rw [if_pos e, if_pos e]; exact j23 ⟨h4, fun _ => Or.inr e⟩
    rw [if_neg e, if_neg e]
    exact atom_bad (fun gg => by rcases gg.2.1 c with h | h <;> contradiction)
  · rw [if_neg c, if_neg c]
    exact j23 ⟨h4, fun hh => absurd hh c⟩
end
section
def ClauseP (σ σ' : mSt) (C : Nat) (x1 x2 x3 x4 : Int32) : Prop := (∀ k, k ≠ 1 → k ≠ 2 → k ≠ 4 → σ'.1 k = σ.1 k) ∧ (σ'.1 1 = σ.1 1 + 1) ∧ (σ'.1 2 = σ.1 2 + 1) ∧ (σ'.1 4 = 0) ∧ (σ'.2.1 = σ.2.1) ∧ (σ'.2.2.2 = σ.2.2.2) ∧ (∀ k i, ¬ (i = C ∧ 16 ≤ k ∧ k ≤ 19) → σ'.2.2.1 k i = σ.2.2.1 k i) ∧ (σ'.2.2.1 16 C = x1) ∧ (σ'.2.2.1 17 C = x2) ∧ (σ'.2.2.1 18 C = x3) ∧ (σ'.2.2.1 19 C = x4)
theorem ClauseP.f {σ σ' : mSt} {C : Nat} {x1 x2 x3 x4 : Int32} (self : ClauseP σ σ' C x1 x2 x3 x4) : ∀ k, k ≠ 1 → k ≠ 2 → k ≠ 4 → σ'.1 k = σ.1 k := self.1
theorem ClauseP.f1 {σ σ' : mSt} {C : Nat} {x1 x2 x3 x4 : Int32} (self : ClauseP σ σ' C x1 x2 x3 x4) : σ'.1 1 = σ.1 1 + 1 := self.2.1
theorem ClauseP.f2 {σ σ' : mSt} {C : Nat} {x1 x2 x3 x4 : Int32} (self : ClauseP σ σ' C x1 x2 x3 x4) : σ'.1 2 = σ.1 2 + 1 := self.2.2.1
theorem ClauseP.f4 {σ σ' : mSt} {C : Nat} {x1 x2 x3 x4 : Int32} (self : ClauseP σ σ' C x1 x2 x3 x4) : σ'.1 4 = 0 := self.2.2.2.1
theorem ClauseP.l {σ σ' : mSt} {C : Nat} {x1 x2 x3 x4 : Int32} (self : ClauseP σ σ' C x1 x2 x3 x4) : σ'.2.1 = σ.2.1 := self.2.2.2.2.1
theorem ClauseP.ll {σ σ' : mSt} {C : Nat} {x1 x2 x3 x4 : Int32} (self : ClauseP σ σ' C x1 x2 x3 x4) : σ'.2.2.2 = σ.2.2.2 := self.2.2.2.2.2.1
theorem ClauseP.a {σ σ' : mSt} {C : Nat} {x1 x2 x3 x4 : Int32} (self : ClauseP σ σ' C x1 x2 x3 x4) : ∀ k i, ¬ (i = C ∧ 16 ≤ k ∧ k ≤ 19) → σ'.2.2.1 k i = σ.2.2.1 k i := self.2.2.2.2.2.2.1
theorem ClauseP.k16 {σ σ' : mSt} {C : Nat} {x1 x2 x3 x4 : Int32} (self : ClauseP σ σ' C x1 x2 x3 x4) : σ'.2.2.1 16 C = x1 := self.2.2.2.2.2.2.2.1
theorem ClauseP.k17 {σ σ' : mSt} {C : Nat} {x1 x2 x3 x4 : Int32} (self : ClauseP σ σ' C x1 x2 x3 x4) : σ'.2.2.1 17 C = x2 := self.2.2.2.2.2.2.2.2.1
theorem ClauseP.k18 {σ σ' : mSt} {C : Nat} {x1 x2 x3 x4 : Int32} (self : ClauseP σ σ' C x1 x2 x3 x4) : σ'.2.2.1 18 C = x3 := self.2.2.2.2.2.2.2.2.2.1
theorem ClauseP.k19 {σ σ' : mSt} {C : Nat} {x1 x2 x3 x4 : Int32} (self : ClauseP σ σ' C x1 x2 x3 x4) : σ'.2.2.1 19 C = x4 := self.2.2.2.2.2.2.2.2.2.2
def ClG (N : Nat) (x1 x2 x3 x4 : Int32) : Prop := Is 8 x1 ∧ Nm x2 ∧ Nm x3 ∧ Is N x4
def Claused (σ : mSt) (N C R T : Nat) (good : Prop) (w : Int32 × mSt) : Prop :=
  (¬ good → w.2 = mo_si σ 4 1) ∧ (good → C = 40 → w.2 = mo_si σ 4 2) ∧ (good → C < 40 → w.1.toInt = R + 1 ∧ w.2.1 4 = 0 ∧ NOk w.2 N (C + 1) (R + 1) T ∧ Tell N C σ w.2 ∧ w.2.2.2.1 24 = σ.2.2.1 24 ∧ w.2.2.2.1 25 = σ.2.2.1 25)
theorem clause_new {σ : mSt} {N C R T : Nat} (h : NOk σ N C R T) (hC : C < 40) {x1 x2 x3 x4 : Int32} (g : ClG N x1 x2 x3 x4) : S_Mo_clause_j49 σ x1 x2 x3 x4 0 ∧ (F_Mo_clause_j49 σ x1 x2 x3 x4 0).1.toInt = R + 1 ∧ (F_Mo_clause_j49 σ x1 x2 x3 x4 0).2.1 4 = 0 ∧ NOk (F_Mo_clause_j49 σ x1 x2 x3 x4 0).2 N (C + 1) (R + 1) T ∧ Tell N C σ (F_Mo_clause_j49 σ x1 x2 x3 x4 0).2 ∧ (F_Mo_clause_j49 σ x1 x2 x3 x4 0).2.2.2.1 24 = σ.2.2.1 24 ∧ (F_Mo_clause_j49 σ x1 x2 x3 x4 0).2.2.2.1 25 = σ.2.2.1 25 := by
  have hc := h.c
  have hr := h.r
  have hrc := h.hr
  have hv : vp_in (σ.1 1) 40 := by ((try (simp only [vp_in, Int32.toNatClampNeg, Int32.lt_iff_toInt_lt, Int32.le_iff_toInt_le, ← Int32.toInt_inj, Int32.toInt_add, Int32.toInt_sub, Int32.toInt_mul, Int32.reduceToInt, i32_neg1, Nat.reducePow, Int.reducePow, ne_eq, ge_iff_le, gt_iff_lt] at *)) <;> (first | omega | ((simp (disch := omega) only [bm32] at *) <;> omega)))
  have hcn : (σ.1 1).toNatClampNeg = C := by ((try (simp only [vp_in, Int32.toNatClampNeg, Int32.lt_iff_toInt_lt, Int32.le_iff_toInt_le, ← Int32.toInt_inj, Int32.toInt_add, Int32.toInt_sub, Int32.toInt_mul, Int32.reduceToInt, i32_neg1, Nat.reducePow, Int.reducePow, ne_eq, ge_iff_le, gt_iff_lt] at *)) <;> (first | omega | ((simp (disch := omega) only [bm32] at *) <;> omega)))
  have e1 : (mo_si σ 4 0).1 1 = σ.1 1 := rfl
  have e4 : (mo_si σ 4 0).1 4 = 0 := rfl
  simp only [S_Mo_clause_j49, F_Mo_clause_j49, ai_1, e1, e4, if_true, hcn]
  refine ⟨⟨hv, hv, hv, hv, trivial⟩, ?_⟩
  generalize hσ' : mo_si (mo_si (mo_ai (mo_ai (mo_ai (mo_ai (mo_si σ 4 0) 16 C x1) 17 C x2) 18 C x3) 19 C x4) 1 (σ.1 1 + 1)) 2 ((mo_si (mo_ai (mo_ai (mo_ai (mo_ai (mo_si σ 4 0) 16 C x1) 17 C x2) 18 C x3) 19 C x4) 1 (σ.1 1 + 1)).1 2 + 1) = σ'
  have p : ClauseP σ σ' C x1 x2 x3 x4 := by
    subst hσ'
    refine ⟨fun k h1 h2 h4 => by simp [si_1, si_2, sl_1, sl_2, sl_3, ai_1, ai_2, ai_3, ai_4, al_1, al_2, al_3, al_4, h1, h2, h4], rfl, rfl, rfl, rfl, rfl, fun k i hk => ?_, ?_, ?_, ?_, ?_⟩
    · simp only [si_2, ai_3]
      repeat (rw [if_neg (by omega)])
    all_goals simp [si_1, si_2, sl_1, sl_2, sl_3, ai_1, ai_2, ai_3, ai_4, al_1, al_2, al_3, al_4]
  have low : ∀ k i, i < C → σ'.2.2.1 k i = σ.2.2.1 k i := fun k i hi => p.a k i (by omega)
  have nd : ∀ k, k < 16 ∨ 19 < k → σ'.2.2.1 k = σ.2.2.1 k := fun k hk => funext fun i => p.a k i (by omega)
  refine ⟨?_, p.f4, ⟨?_, h.hn, ?_, by omega, ?_, by omega, fun i hi => (h.nd i hi).congr (by omega) (Nat.le_refl _) (fun k h1 h2 j hj => by rw [nd k (by omega)]) (fun j hj => low 19 j hj), fun j hj => ?_⟩, ⟨fun k hk => p.f k (by omega) (by omega) (by omega), p.l, p.ll, fun k i h1 h2 h3 => by rw [nd k (by omega)], fun k j h1 h2 h3 => low k j h3, fun k h1 _ _ => nd k (by omega)⟩, nd 24 (by omega), nd 25 (by omega)⟩
  · rw [p.f2]; ((try (simp only [vp_in, Int32.toNatClampNeg, Int32.lt_iff_toInt_lt, Int32.le_iff_toInt_le, ← Int32.toInt_inj, Int32.toInt_add, Int32.toInt_sub, Int32.toInt_mul, Int32.reduceToInt, i32_neg1, Nat.reducePow, Int.reducePow, ne_eq, ge_iff_le, gt_iff_lt] at *)) <;> (first | omega | ((simp (disch := omega) only [bm32] at *) <;> omega)))
  · rw [p.f 0 (by decide) (by decide) (by decide)]; exact h.n
  · rw [p.f1]; ((try (simp only [vp_in, Int32.toNatClampNeg, Int32.lt_iff_toInt_lt, Int32.le_iff_toInt_le, ← Int32.toInt_inj, Int32.toInt_add, Int32.toInt_sub, Int32.toInt_mul, Int32.reduceToInt, i32_neg1, Nat.reducePow, Int.reducePow, ne_eq, ge_iff_le, gt_iff_lt] at *)) <;> (first | omega | ((simp (disch := omega) only [bm32] at *) <;> omega)))
  · rw [p.f2]; ((try (simp only [vp_in, Int32.toNatClampNeg, Int32.lt_iff_toInt_lt, Int32.le_iff_toInt_le, ← Int32.toInt_inj, Int32.toInt_add, Int32.toInt_sub, Int32.toInt_mul, Int32.reduceToInt, i32_neg1, Nat.reducePow, Int.reducePow, ne_eq, ge_iff_le, gt_iff_lt] at *)) <;> (first | omega | ((simp (disch := omega) only [bm32] at *) <;> omega)))
  · by_cases hj' : j = C
    · subst hj'
      obtain ⟨g1, g2, g3, g4⟩ := g
      exact ⟨by rw [p.k16]; exact g1, by rw [p.k17]; exact g2, by rw [p.k18]; exact g3, by rw [p.k19]; exact g4⟩
    · have := h.cl j (by omega)
      exact ⟨by rw [low 16 j (by omega)]; exact this.e, by rw [low 17 j (by omega)]; exact this.x, by rw [low 18 j (by omega)]; exact this.k, by rw [low 19 j (by omega)]; exact this.b⟩
theorem clause_ok {σ : mSt} {N C R T : Nat} (h : NOk σ N C R T) {x1 x2 x3 x4 : Int32} : S_Mo_clause σ x1 x2 x3 x4 ∧ Claused σ N C R T (ClG N x1 x2 x3 x4) (F_Mo_clause σ x1 x2 x3 x4) := by
  have h0 := h.n
  have hc := h.c
  have hC := h.hc
  by_cases a : Is 8 x1 <;> by_cases b : Nm x2 <;> by_cases c : Nm x3 <;> by_cases d : Is N x4
  case pos =>
    have g : ClG N x1 x2 x3 x4 := ⟨a, b, c, d⟩
    by_cases hC4 : C < 40
    · have hc4 : ¬ σ.1 1 = 40 := by ((try (simp only [vp_in, Int32.toNatClampNeg, Int32.lt_iff_toInt_lt, Int32.le_iff_toInt_le, ← Int32.toInt_inj, Int32.toInt_add, Int32.toInt_sub, Int32.toInt_mul, Int32.reduceToInt, i32_neg1, Nat.reducePow, Int.reducePow, ne_eq, ge_iff_le, gt_iff_lt] at *)) <;> (first | omega | ((simp (disch := omega) only [bm32] at *) <;> omega)))
      simp only [S_Mo_clause, F_Mo_clause, isEffect_F, isName_F, isNode_F h0, isEffect_S, isName_S, isNode_S, mbind_eq, if_pos a, if_pos b, if_pos c, if_pos d, if_neg hc4, if_neg (show ¬ (1 : Int32) = 0 by decide), true_and]
      have r := clause_new h hC4 g
      exact ⟨r.1, fun gg => absurd g gg, fun _ gg => absurd gg (by omega), fun _ _ => r.2⟩
    · have hc4 : σ.1 1 = 40 := by ((try (simp only [vp_in, Int32.toNatClampNeg, Int32.lt_iff_toInt_lt, Int32.le_iff_toInt_le, ← Int32.toInt_inj, Int32.toInt_add, Int32.toInt_sub, Int32.toInt_mul, Int32.reduceToInt, i32_neg1, Nat.reducePow, Int.reducePow, ne_eq, ge_iff_le, gt_iff_lt] at *)) <;> (first | omega | ((simp (disch := omega) only [bm32] at *) <;> omega)))
      simp [si_1, si_2, sl_1, sl_2, sl_3, ai_1, ai_2, ai_3, ai_4, al_1, al_2, al_3, al_4, S_Mo_clause, F_Mo_clause, S_Mo_clause_j49, F_Mo_clause_j49, isEffect_F, isName_F, isNode_F h0, isEffect_S, isName_S, isNode_S, mbind_eq, a, b, c, d, hc4, Claused, g, hC4]
  all_goals simp [si_1, si_2, sl_1, sl_2, sl_3, ai_1, ai_2, ai_3, ai_4, al_1, al_2, al_3, al_4, S_Mo_clause, F_Mo_clause, S_Mo_clause_j31, F_Mo_clause_j31, S_Mo_clause_j49, F_Mo_clause_j49, isEffect_F, isName_F, isNode_F h0, isEffect_S, isName_S, isNode_S, mbind_eq, a, b, c, d, Claused, ClG]
end
