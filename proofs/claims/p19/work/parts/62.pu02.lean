-- pure rows: L M N O P
section
/-- the clauses' sizes and depths come to the handle's -/
theorem handle_loop {N C F : Nat} (hN : N < 200) (hC : C ≤ 40) (σ0 : mSt) (b : Int) (hb : 1 ≤ b) (hs : ∀ p, p < N → 1 ≤ Sz σ0 p ∧ Sz σ0 p ≤ 100000) (hd : ∀ p, p < N → 1 ≤ Dp σ0 p ∧ Dp σ0 p ≤ p + 1) (hx : ∀ j, j < C → 0 ≤ (σ0.2.2.1 19 j).toInt ∧ (σ0.2.2.1 19 j).toInt < N) (hc : (σ0.1 1).toInt = C) :
    ∀ (m n : Nat) (σ : mSt) (x y : Int32) (j : Nat), x.toInt = N → y.toInt = j → F ≤ j → j ≤ C → C - j ≤ m → m < n → CFr N σ0 σ → (1 ≤ Sz σ N ∧ Sz σ N ≤ 100000) → (1 ≤ Dp σ N ∧ Dp σ N ≤ N + 1) → Dp σ0 N ≤ Dp σ N → (Sz σ N < 100000 → b + csz σ0 F (j - F) ≤ Sz σ N) → (∀ i, F ≤ i → i < j → Dp σ0 (σ0.2.2.1 19 i).toInt.toNat < Dp σ N) →
    S_Mo_handle_113 n σ x y ∧ (F_Mo_handle_113 n σ x y).2 = x ∧ CFr N σ0 (F_Mo_handle_113 n σ x y).1 ∧ (1 ≤ Sz (F_Mo_handle_113 n σ x y).1 N ∧ Sz (F_Mo_handle_113 n σ x y).1 N ≤ 100000) ∧ (1 ≤ Dp (F_Mo_handle_113 n σ x y).1 N ∧ Dp (F_Mo_handle_113 n σ x y).1 N ≤ N + 1) ∧ Dp σ0 N ≤ Dp (F_Mo_handle_113 n σ x y).1 N ∧ (Sz (F_Mo_handle_113 n σ x y).1 N < 100000 → b + csz σ0 F (C - F) ≤ Sz (F_Mo_handle_113 n σ x y).1 N) ∧ (∀ i, F ≤ i → i < C → Dp σ0 (σ0.2.2.1 19 i).toInt.toNat < Dp (F_Mo_handle_113 n σ x y).1 N) := by
  intro m
  induction m with
  | zero =>
    intro n σ x y j hxN hy hF hj hm hn fr s d d0 ss dd
    obtain ⟨n, rfl⟩ : ∃ k, n = k + 1 := ⟨n - 1, by omega⟩
    have hjC : j = C := by omega
    subst hjC
    have hcc : σ.1 1 ≤ y := by rw [fr.f]; ((try (simp only [vp_in, Int32.toNatClampNeg, Int32.lt_iff_toInt_lt, Int32.le_iff_toInt_le, ← Int32.toInt_inj, Int32.toInt_add, Int32.toInt_sub, Int32.toInt_mul, Int32.reduceToInt, i32_neg1, Nat.reducePow, Int.reducePow, ne_eq, ge_iff_le, gt_iff_lt] at *)) <;> (first | omega | ((simp (disch := omega) only [bm32] at *) <;> omega)))
    simp only [S_Mo_handle_113, F_Mo_handle_113, if_pos hcc]
    exact ⟨trivial, trivial, fr, s, d, d0, ss, dd⟩
  | succ m ih =>
    intro n σ x y j hxN hy hF hj hm hn fr s d d0 ss dd
    obtain ⟨n, rfl⟩ : ∃ k, n = k + 1 := ⟨n - 1, by omega⟩
    by_cases hjC : j = C
    · subst hjC
      have hcc : σ.1 1 ≤ y := by rw [fr.f]; ((try (simp only [vp_in, Int32.toNatClampNeg, Int32.lt_iff_toInt_lt, Int32.le_iff_toInt_le, ← Int32.toInt_inj, Int32.toInt_add, Int32.toInt_sub, Int32.toInt_mul, Int32.reduceToInt, i32_neg1, Nat.reducePow, Int.reducePow, ne_eq, ge_iff_le, gt_iff_lt] at *)) <;> (first | omega | ((simp (disch := omega) only [bm32] at *) <;> omega)))
      simp only [S_Mo_handle_113, F_Mo_handle_113, if_pos hcc]
      exact ⟨trivial, trivial, fr, s, d, d0, ss, dd⟩
    · have hcc : ¬ σ.1 1 ≤ y := by rw [fr.f]; ((try (simp only [vp_in, Int32.toNatClampNeg, Int32.lt_iff_toInt_lt, Int32.le_iff_toInt_le, ← Int32.toInt_inj, Int32.toInt_add, Int32.toInt_sub, Int32.toInt_mul, Int32.reduceToInt, i32_neg1, Nat.reducePow, Int.reducePow, ne_eq, ge_iff_le, gt_iff_lt] at *)) <;> (first | omega | ((simp (disch := omega) only [bm32] at *) <;> omega)))
      have hyn : y.toNatClampNeg = j := by ((try (simp only [vp_in, Int32.toNatClampNeg, Int32.lt_iff_toInt_lt, Int32.le_iff_toInt_le, ← Int32.toInt_inj, Int32.toInt_add, Int32.toInt_sub, Int32.toInt_mul, Int32.reduceToInt, i32_neg1, Nat.reducePow, Int.reducePow, ne_eq, ge_iff_le, gt_iff_lt] at *)) <;> (first | omega | ((simp (disch := omega) only [bm32] at *) <;> omega)))
      have hv : vp_in y 40 := by ((try (simp only [vp_in, Int32.toNatClampNeg, Int32.lt_iff_toInt_lt, Int32.le_iff_toInt_le, ← Int32.toInt_inj, Int32.toInt_add, Int32.toInt_sub, Int32.toInt_mul, Int32.reduceToInt, i32_neg1, Nat.reducePow, Int.reducePow, ne_eq, ge_iff_le, gt_iff_lt] at *)) <;> (first | omega | ((simp (disch := omega) only [bm32] at *) <;> omega)))
      have hj1 := hx j (by omega)
      have e19 : σ.2.2.1 19 j = σ0.2.2.1 19 j := fr.a 19 j (by omega)
      simp only [S_Mo_handle_113, F_Mo_handle_113, if_neg hcc, mbind_eq, hyn, e19]
      have lowS : ∀ p, p < N → Sz σ p = Sz σ0 p := fun p hp => by unfold Sz; rw [fr.a 12 p (by omega)]
      have lowD : ∀ p, p < N → Dp σ p = Dp σ0 p := fun p hp => by unfold Dp; rw [fr.a 13 p (by omega)]
      have c1 := counts_ok (σ := σ) (x := x) (y := σ0.2.2.1 19 j) (n := N) (p := (σ0.2.2.1 19 j).toInt.toNat) hxN (by omega) hN (by omega) s (by rw [lowS (σ0.2.2.1 19 j).toInt.toNat (by omega)]; exact hs _ (by omega)) (by omega) (by rw [lowD (σ0.2.2.1 19 j).toInt.toNat (by omega)]; have := hd (σ0.2.2.1 19 j).toInt.toNat (by omega); omega)
      rw [lowS (σ0.2.2.1 19 j).toInt.toNat (by omega), lowD (σ0.2.2.1 19 j).toInt.toNat (by omega)] at c1
      have hs' := hs (σ0.2.2.1 19 j).toInt.toNat (by omega)
      have hd' := hd (σ0.2.2.1 19 j).toInt.toNat (by omega)
      generalize F_Mo_counts σ x (σ0.2.2.1 19 j) = σ1 at c1 ⊢
      obtain ⟨a1, f1, b1, b2⟩ := c1
      have hcs : csz σ0 F (j + 1 - F) = csz σ0 F (j - F) + Sz σ0 (σ0.2.2.1 19 j).toInt.toNat := by
        have : j + 1 - F = (j - F) + 1 := by omega
        rw [this]
        show csz σ0 F (j - F) + Sz σ0 (σ0.2.2.1 19 (F + (j - F))).toInt.toNat = _
        rw [show F + (j - F) = j by omega]
      have r := ih n σ1 x (y + 1) (j + 1) hxN (by ((try (simp only [vp_in, Int32.toNatClampNeg, Int32.lt_iff_toInt_lt, Int32.le_iff_toInt_le, ← Int32.toInt_inj, Int32.toInt_add, Int32.toInt_sub, Int32.toInt_mul, Int32.reduceToInt, i32_neg1, Nat.reducePow, Int.reducePow, ne_eq, ge_iff_le, gt_iff_lt] at *)) <;> (first | omega | ((simp (disch := omega) only [bm32] at *) <;> omega)))) (by omega) (by omega) (by omega) (by omega) (fr.trans f1) (by omega) (by omega) (by omega) (by intro h; rw [hcs]; have := ss (by omega); omega) (by
        intro i h1 h2
        by_cases hij : i = j
        · subst hij; omega
        · have := dd i h1 (by omega); omega)
      exact ⟨⟨hv, a1, r.1⟩, r.2⟩
def Handled (σ : mSt) (N C R T : Nat) (good : Prop) (w : Int32 × mSt) : Prop :=
  (¬ good → w.2 = mo_si σ 4 1) ∧ (good → N = 200 → w.2 = mo_si σ 4 2) ∧ (good → N < 200 → w.1.toInt = N ∧ w.2.1 4 = 0 ∧ NOk w.2 (N + 1) C 0 T ∧ Tell N C σ w.2 ∧ w.2.2.2.1 24 = σ.2.2.1 24 ∧ w.2.2.2.1 25 = σ.2.2.1 25)
def HdG (N : Nat) (x1 x2 x3 x4 : Int32) : Prop := Nm x3 ∧ Is N x1 ∧ Is N x4 ∧ Is 256 x2
theorem handle_new {σ : mSt} {N C R T : Nat} (h : NOk σ N C R T) (hN : N < 200) {n : Nat} (hn : 50 ≤ n) {x1 x2 x3 x4 : Int32} (g : HdG N x1 x2 x3 x4) : S_Mo_handle_j43 n σ x1 x2 x3 x4 1 8 ∧ Handled σ N C R T True (F_Mo_handle_j43 n σ x1 x2 x3 x4 1 8) := by
  have h0 := h.n
  have hc := h.c
  have hr := h.r
  have hrc := h.hr
  have hC := h.hc
  obtain ⟨g3, g1, g4, g2⟩ := g
  obtain ⟨sn, rn, pn⟩ := add_new h hN (x1 := 8) (Pn.of g1) (Pn.of g4) Pn.no
  obtain ⟨e1, e2⟩ := addN (k := 8) (a := x1) (b := x4) (c := -1) h0 hN
  have e2 := e2 sn
  have f4 := pn.f4
  have f1 := pn.f 1 (by decide) (by decide)
  have f2 := pn.f 2 (by decide) (by decide)
  simp only [S_Mo_handle_j43, F_Mo_handle_j43, mbind_eq, e1, e2, f4, if_true, true_and, ai_1, f1, f2]
  generalize F_Mo_add_j24 σ 8 x1 x4 (-1) 0 = w at *
  have hw : w.1.toNatClampNeg = N := by ((try (simp only [vp_in, Int32.toNatClampNeg, Int32.lt_iff_toInt_lt, Int32.le_iff_toInt_le, ← Int32.toInt_inj, Int32.toInt_add, Int32.toInt_sub, Int32.toInt_mul, Int32.reduceToInt, i32_neg1, Nat.reducePow, Int.reducePow, ne_eq, ge_iff_le, gt_iff_lt] at *)) <;> (first | omega | ((simp (disch := omega) only [bm32] at *) <;> omega)))
  have hv : vp_in w.1 200 := by ((try (simp only [vp_in, Int32.toNatClampNeg, Int32.lt_iff_toInt_lt, Int32.le_iff_toInt_le, ← Int32.toInt_inj, Int32.toInt_add, Int32.toInt_sub, Int32.toInt_mul, Int32.reduceToInt, i32_neg1, Nat.reducePow, Int.reducePow, ne_eq, ge_iff_le, gt_iff_lt] at *)) <;> (first | omega | ((simp (disch := omega) only [bm32] at *) <;> omega)))
  rw [hw]
  generalize hσ1 : mo_ai (mo_ai (mo_ai (mo_ai w.2 6 N x3) 7 N x2) 14 N (σ.1 1 - σ.1 2)) 15 N (σ.1 2) = σ1
  have fr1 : ∀ k i, ¬ (i = N ∧ (k = 6 ∨ k = 7 ∨ k = 14 ∨ k = 15)) → σ1.2.2.1 k i = w.2.2.2.1 k i := by
    intro k i hk
    subst hσ1
    simp only [ai_3]
    repeat (rw [if_neg (by omega)])
  have q6 : σ1.2.2.1 6 N = x3 := by subst hσ1; simp [si_1, si_2, sl_1, sl_2, sl_3, ai_1, ai_2, ai_3, ai_4, al_1, al_2, al_3, al_4]
  have q14 : σ1.2.2.1 14 N = σ.1 1 - σ.1 2 := by subst hσ1; simp [si_1, si_2, sl_1, sl_2, sl_3, ai_1, ai_2, ai_3, ai_4, al_1, al_2, al_3, al_4]
  have q15 : σ1.2.2.1 15 N = σ.1 2 := by subst hσ1; simp [si_1, si_2, sl_1, sl_2, sl_3, ai_1, ai_2, ai_3, ai_4, al_1, al_2, al_3, al_4]
  have w14 : (σ1.2.2.1 14 N).toInt = (C - R : Nat) := by rw [q14]; ((try (simp only [vp_in, Int32.toNatClampNeg, Int32.lt_iff_toInt_lt, Int32.le_iff_toInt_le, ← Int32.toInt_inj, Int32.toInt_add, Int32.toInt_sub, Int32.toInt_mul, Int32.reduceToInt, i32_neg1, Nat.reducePow, Int.reducePow, ne_eq, ge_iff_le, gt_iff_lt] at *)) <;> (first | omega | ((simp (disch := omega) only [bm32] at *) <;> omega)))
  have w15 : (σ1.2.2.1 15 N).toInt = R := by rw [q15]; exact hr
  have ff : σ1.1 = w.2.1 := by subst hσ1; rfl
  have fl : σ1.2.1 = w.2.2.1 := by subst hσ1; rfl
  have fll : σ1.2.2.2 = w.2.2.2.2 := by subst hσ1; rfl
  have low1 : ∀ k i, i < N → σ1.2.2.1 k i = σ.2.2.1 k i := fun k i hi => (fr1 k i (by omega)).trans (pn.a k i (by omega))
  have hi1 : ∀ k, 16 ≤ k → σ1.2.2.1 k = σ.2.2.1 k := fun k hk => funext fun i => (fr1 k i (by omega)).trans (pn.a k i (by omega))
  have bs : ∀ p, p < N → 1 ≤ Sz σ1 p ∧ Sz σ1 p ≤ 100000 := fun p hp => by unfold Sz; rw [low1 12 p hp]; exact (h.nd p hp).s1
  have bd : ∀ p, p < N → 1 ≤ Dp σ1 p ∧ Dp σ1 p ≤ p + 1 := fun p hp => by unfold Dp; rw [low1 13 p hp]; exact (h.nd p hp).dp
  have bx : ∀ j, j < C → 0 ≤ (σ1.2.2.1 19 j).toInt ∧ (σ1.2.2.1 19 j).toInt < N := fun j hj => by rw [hi1 19 (by decide)]; exact (h.cl j hj).b
  have eS : Sz σ1 N = Sz w.2 N := by unfold Sz; rw [fr1 12 N (by omega)]
  have eD : Dp σ1 N = Dp w.2 N := by unfold Dp; rw [fr1 13 N (by omega)]
  have pd := pn.dp
  have ps := pn.s1
  have r := handle_loop (F := C - R) hN hC σ1 (Sz σ1 N) (by omega) bs bd bx (by rw [ff, f1]; exact hc) 40 n σ1 w.1 (σ1.2.2.1 14 N) (C - R) rn (by omega) (Nat.le_refl _) (by omega) (by omega) (by omega) CFr.rfl' (by omega) (by omega) (by omega) (by intro _; rw [Nat.sub_self]; show Sz σ1 N + 0 ≤ _; omega) (fun i h1 h2 => absurd h2 (by omega))
  generalize F_Mo_handle_113 n σ1 w.1 (σ1.2.2.1 14 N) = u at r ⊢
  obtain ⟨r1, r2, r3, r4, r5, r6, r7, r8⟩ := r
  refine ⟨⟨hv, hv, hv, hv, hv, r1, trivial⟩, fun gg => absurd trivial gg, fun _ gg => absurd gg (by omega), fun _ _ => ?_⟩
  have ea : ∀ k i, ¬ (i = N ∧ (k = 12 ∨ k = 13)) → u.1.2.2.1 k i = σ1.2.2.1 k i := fun k i hk => r3.a k i (by omega)
  have low : ∀ k i, i < N → u.1.2.2.1 k i = σ.2.2.1 k i := fun k i hi => (ea k i (by omega)).trans (low1 k i hi)
  have hi16 : ∀ k, 16 ≤ k → u.1.2.2.1 k = σ.2.2.1 k := fun k hk => (funext fun i => ea k i (by omega)).trans (hi1 k hk)
  have hK : K u.1 N = 8 := by unfold K; rw [ea 5 N (by omega), fr1 5 N (by omega), pn.k5]; rfl
  have u9 : u.1.2.2.1 9 N = x1 := by rw [ea 9 N (by omega), fr1 9 N (by omega), pn.k9]
  have u10 : u.1.2.2.1 10 N = x4 := by rw [ea 10 N (by omega), fr1 10 N (by omega), pn.k10]
  have u11 : u.1.2.2.1 11 N = -1 := by rw [ea 11 N (by omega), fr1 11 N (by omega), pn.k11]
  have u6 : u.1.2.2.1 6 N = x3 := by rw [ea 6 N (by omega), q6]
  have u14 : (u.1.2.2.1 14 N).toInt = (C - R : Nat) := by rw [ea 14 N (by omega)]; exact w14
  have u15 : (u.1.2.2.1 15 N).toInt = R := by rw [ea 15 N (by omega)]; exact w15
  have pt : ∀ y, Pn N y → dpp σ y < Dp w.2 N → Pt u.1 N y := by
    intro y hy hd
    by_cases hm : y = -1
    · exact Or.inl hm
    · rcases hy with hy | ⟨a, b⟩
      · exact absurd hy hm
      · refine Or.inr ⟨a, b, ?_⟩
        unfold dpp at hd
        rw [if_neg hm] at hd
        have : Dp u.1 y.toInt.toNat = Dp σ y.toInt.toNat := by unfold Dp; rw [low 13 _ (by omega)]
        omega
  have szc : ∀ y, Pn N y → sz u.1 y = sz σ y := by
    intro y hy
    unfold sz
    split
    · rfl
    · rcases hy with hy | ⟨a, b⟩
      · contradiction
      · unfold Sz; rw [low 12 _ (by omega)]
  have uf : u.1.1 = w.2.1 := r3.f.trans ff
  refine ⟨by rw [r2]; exact rn, by show (mo_si u.1 2 0).1 4 = 0; simp [si_1, si_2, sl_1, sl_2, sl_3, ai_1, ai_2, ai_3, ai_4, al_1, al_2, al_3, al_4, uf, f4], ⟨?_, by omega, ?_, hC, ?_, by omega, ?_, ?_⟩, ⟨?_, ?_, ?_, fun k i _ _ hi => low k i hi, fun k j h1 h2 h3 => by show u.1.2.2.1 k j = _; rw [hi16 k h1], fun k hk _ _ => hi16 k (by omega)⟩, hi16 24 (by decide), hi16 25 (by decide)⟩
  · show ((mo_si u.1 2 0).1 0).toInt = _; simp [si_1, si_2, sl_1, sl_2, sl_3, ai_1, ai_2, ai_3, ai_4, al_1, al_2, al_3, al_4, uf]; have := pn.f0; omega
  · show ((mo_si u.1 2 0).1 1).toInt = _; simp [si_1, si_2, sl_1, sl_2, sl_3, ai_1, ai_2, ai_3, ai_4, al_1, al_2, al_3, al_4, uf, f1]; exact hc
  · show ((mo_si u.1 2 0).1 2).toInt = _; simp [si_1, si_2, sl_1, sl_2, sl_3, ai_1, ai_2, ai_3, ai_4, al_1, al_2, al_3, al_4]
  · intro i hi
    have cong : Nd u.1 C T i → Nd (mo_si u.1 2 0) C T i := fun hh => hh.congr (Nat.le_refl _) (Nat.le_refl _) (fun _ _ _ _ _ => rfl) (fun _ _ => rfl)
    apply cong
    by_cases hiN : i = N
    · subst hiN
      refine ⟨by rw [hK]; omega, by rw [u9]; exact pt _ (Pn.of g1) pd.2.2.1, by rw [u10]; exact pt _ (Pn.of g4) pd.2.2.2.1, by rw [u11]; exact Or.inl rfl, by rw [u9]; exact fun _ => g1.ne, by rw [u10]; exact fun _ => g4.ne, by rw [hK]; intro hh; omega, by rw [u6]; exact fun _ => g3, by rw [hK]; intro hh; omega, by rw [hK]; intro hh; omega, by rw [hK]; intro hh; omega, by rw [u15, hK]; omega, by rw [u14, u15]; omega, ?_, r5, r4, ?_⟩
      · intro _ j hj1 hj2
        rw [u14] at hj1 hj2
        rw [u15] at hj2
        have := bx j (by omega)
        have hd := r8 j (by omega) (by omega)
        have e : u.1.2.2.1 19 j = σ1.2.2.1 19 j := ea 19 j (by omega)
        rw [e]
        have e2 : Dp u.1 (σ1.2.2.1 19 j).toInt.toNat = Dp σ1 (σ1.2.2.1 19 j).toInt.toNat := by unfold Dp; rw [ea 13 _ (by omega)]
        omega
      · intro hs
        have a7 := r7 hs
        have a8 := pn.s2 (by
          have : 0 ≤ csz σ1 (C - R) (C - (C - R)) := by
            have : ∀ m, m ≤ R → 0 ≤ csz σ1 (C - R) m := by
              intro m
              induction m with
              | zero => intro _; exact Int.le_refl _
              | succ m ih =>
                intro hm
                have := ih (by omega)
                have b1 := bx (C - R + m) (by omega)
                have b2 := bs (σ1.2.2.1 19 (C - R + m)).toInt.toNat (by omega)
                show 0 ≤ csz σ1 (C - R) m + Sz σ1 (σ1.2.2.1 19 (C - R + m)).toInt.toNat
                omega
            exact this _ (by omega)
          omega)
        rw [u9, u10, u11, szc _ (Pn.of g1), szc _ (Pn.of g4), u14, u15]
        have e0 : sz u.1 (-1) = 0 := by simp [si_1, si_2, sl_1, sl_2, sl_3, ai_1, ai_2, ai_3, ai_4, al_1, al_2, al_3, al_4, sz]
        have e1 : sz σ (-1) = 0 := by simp [si_1, si_2, sl_1, sl_2, sl_3, ai_1, ai_2, ai_3, ai_4, al_1, al_2, al_3, al_4, sz]
        have e3 : csz u.1 (C - R : Nat) R = csz σ1 (C - R) R := by
          refine csz_congr (fun j a b => ea 19 j (by omega)) (fun j a b => ?_)
          have := bx j (by omega)
          unfold Sz; rw [ea 12 _ (by omega)]
        have e4 : C - (C - R) = R := by omega
        rw [e4] at a7
        simp only [Int.toNat_natCast]
        rw [e3, e0]
        rw [e1] at a8
        omega
    · exact (h.nd i (by omega)).congr (Nat.le_refl _) (Nat.le_refl _) (fun k _ _ j hj => low k j (by omega)) (fun j _ => by rw [hi16 19 (by decide)])
  · intro j hj
    have := h.cl j hj
    refine ⟨?_, ?_, ?_, ?_⟩
    · show 0 ≤ (u.1.2.2.1 16 j).toInt ∧ _; rw [si_2, hi16 16 (by decide)]; exact this.e
    · show 0 ≤ (u.1.2.2.1 17 j).toInt ∧ _; rw [si_2, hi16 17 (by decide)]; exact this.x
    · show 0 ≤ (u.1.2.2.1 18 j).toInt ∧ _; rw [si_2, hi16 18 (by decide)]; exact this.k
    · show 0 ≤ (u.1.2.2.1 19 j).toInt ∧ _; rw [si_2, hi16 19 (by decide)]; have := this.b; omega
  · intro k hk
    show (mo_si u.1 2 0).1 k = _
    rw [si_1, if_neg (by omega), uf, pn.f k (by omega) (by omega)]
  · show u.1.2.1 = _; rw [r3.l, fl, pn.l]
  · show u.1.2.2.2 = _; rw [r3.ll, fll, pn.ll]
end
section
theorem handle_ok {σ : mSt} {N C R T : Nat} (h : NOk σ N C R T) {n : Nat} (hn : 50 ≤ n) {x1 x2 x3 x4 : Int32} : S_Mo_handle n σ x1 x2 x3 x4 ∧ Handled σ N C R T (HdG N x1 x2 x3 x4) (F_Mo_handle n σ x1 x2 x3 x4) := by
  have h0 := h.n
  have hN2 := h.hn
  have bad : ¬ HdG N x1 x2 x3 x4 → S_Mo_handle_j43 n σ x1 x2 x3 x4 0 8 ∧ Handled σ N C R T (HdG N x1 x2 x3 x4) (F_Mo_handle_j43 n σ x1 x2 x3 x4 0 8) := by
    intro g
    simp [si_1, si_2, sl_1, sl_2, sl_3, ai_1, ai_2, ai_3, ai_4, al_1, al_2, al_3, al_4, S_Mo_handle_j43, F_Mo_handle_j43, mbind_eq, add0F, add0S, Handled, g]
  have ok : HdG N x1 x2 x3 x4 → S_Mo_handle_j43 n σ x1 x2 x3 x4 1 8 ∧ Handled σ N C R T (HdG N x1 x2 x3 x4) (F_Mo_handle_j43 n σ x1 x2 x3 x4 1 8) := by
    intro g
    by_cases hN : N < 200
    · have r := handle_new h hN hn g
      exact ⟨r.1, fun gg => absurd g gg, fun _ => r.2.2.1 trivial, fun _ => r.2.2.2 trivial⟩
    · have hF : ∀ k a b c, F_Mo_add σ k 1 a b c = (0, mo_si σ 4 2) := fun _ _ _ _ => (addF (by omega)).1
      have hS : ∀ k a b c, S_Mo_add σ k 1 a b c := fun _ _ _ _ => (addF (by omega)).2
      simp [si_1, si_2, sl_1, sl_2, sl_3, ai_1, ai_2, ai_3, ai_4, al_1, al_2, al_3, al_4, S_Mo_handle_j43, F_Mo_handle_j43, mbind_eq, hF, hS, Handled, g, hN]
  simp only [S_Mo_handle, F_Mo_handle, S_Mo_handle_j42, F_Mo_handle_j42, isName_F, isNode_F h0, isName_S, isNode_S, mbind_eq, true_and]
  have n1 : ¬ (1 : Int32) = 0 := by decide
  by_cases a : Nm x3
  · simp only [if_pos a, if_neg n1]
    by_cases b : Is N x1
    · simp only [if_pos b, if_neg n1]
      by_cases c : Is N x4
      · simp only [if_pos c, if_neg n1]
        by_cases d : x2 < 0
        · rw [if_pos d, if_pos d]
          exact bad (fun g => by have := g.2.2.2; unfold Is at this; ((try (simp only [vp_in, Int32.toNatClampNeg, Int32.lt_iff_toInt_lt, Int32.le_iff_toInt_le, ← Int32.toInt_inj, Int32.toInt_add, Int32.toInt_sub, Int32.toInt_mul, Int32.reduceToInt, i32_neg1, Nat.reducePow, Int.reducePow, ne_eq, ge_iff_le, gt_iff_lt] at *)) <;> (first | omega | ((simp (disch := omega) only [bm32] at *) <;> omega))))
        rw [if_neg d, if_neg d]
        by_cases e : 255 < x2
        · rw [if_pos e, if_pos e]
          exact bad (fun g => by have := g.2.2.2; unfold Is at this; ((try (simp only [vp_in, Int32.toNatClampNeg, Int32.lt_iff_toInt_lt, Int32.le_iff_toInt_le, ← Int32.toInt_inj, Int32.toInt_add, Int32.toInt_sub, Int32.toInt_mul, Int32.reduceToInt, i32_neg1, Nat.reducePow, Int.reducePow, ne_eq, ge_iff_le, gt_iff_lt] at *)) <;> (first | omega | ((simp (disch := omega) only [bm32] at *) <;> omega))))
        rw [if_neg e, if_neg e]
        exact ok ⟨a, b, c, by unfold Is; ((try (simp only [vp_in, Int32.toNatClampNeg, Int32.lt_iff_toInt_lt, Int32.le_iff_toInt_le, ← Int32.toInt_inj, Int32.toInt_add, Int32.toInt_sub, Int32.toInt_mul, Int32.reduceToInt, i32_neg1, Nat.reducePow, Int.reducePow, ne_eq, ge_iff_le, gt_iff_lt] at *)) <;> (first | omega | ((simp (disch := omega) only [bm32] at *) <;> omega)))⟩
      · simp only [if_neg c, if_true]
        exact bad (fun g => c g.2.2.1)
    · simp only [if_neg b, if_true]
      exact bad (fun g => b g.2.1)
  · simp only [if_neg a, if_true]
    exact bad (fun g => a g.1)

/-- what the effects take and give are types -/
def EOk (σ : mSt) (T : Nat) : Prop := ∀ e, e < 8 → Is T (σ.2.2.1 24 e) ∧ Is T (σ.2.2.1 25 e)
def EfG (T : Nat) (x1 x2 x3 : Int32) : Prop := Is 8 x1 ∧ Is T x2 ∧ Is T x3
theorem effect_ok {σ : mSt} {T : Nat} (hT : (σ.1 3).toInt = T) (hE : EOk σ T) {x1 x2 x3 : Int32} : S_Mo_effect σ x1 x2 x3 ∧ (¬ EfG T x1 x2 x3 → F_Mo_effect σ x1 x2 x3 = mo_si σ 4 1) ∧ (EfG T x1 x2 x3 → F_Mo_effect σ x1 x2 x3 = mo_ai (mo_ai (mo_si σ 4 0) 24 x1.toInt.toNat x2) 25 x1.toInt.toNat x3 ∧ EOk (F_Mo_effect σ x1 x2 x3) T) := by
  by_cases a : Is 8 x1 <;> by_cases b : Is T x2 <;> by_cases c : Is T x3
  case pos =>
    have hv : vp_in x1 8 := by unfold Is at a; ((try (simp only [vp_in, Int32.toNatClampNeg, Int32.lt_iff_toInt_lt, Int32.le_iff_toInt_le, ← Int32.toInt_inj, Int32.toInt_add, Int32.toInt_sub, Int32.toInt_mul, Int32.reduceToInt, i32_neg1, Nat.reducePow, Int.reducePow, ne_eq, ge_iff_le, gt_iff_lt] at *)) <;> (first | omega | ((simp (disch := omega) only [bm32] at *) <;> omega)))
    have hF : F_Mo_effect σ x1 x2 x3 = mo_ai (mo_ai (mo_si σ 4 0) 24 x1.toInt.toNat x2) 25 x1.toInt.toNat x3 := by
      simp [si_1, si_2, sl_1, sl_2, sl_3, ai_1, ai_2, ai_3, ai_4, al_1, al_2, al_3, al_4, F_Mo_effect, F_Mo_effect_j29, isEffect_F, isType_F hT, mbind_eq, a, b, c]
    refine ⟨by simp [si_1, si_2, sl_1, sl_2, sl_3, ai_1, ai_2, ai_3, ai_4, al_1, al_2, al_3, al_4, S_Mo_effect, S_Mo_effect_j29, isEffect_F, isType_F hT, isEffect_S, isType_S, mbind_eq, a, b, c, hv], fun g => absurd ⟨a, b, c⟩ g, fun _ => ⟨hF, ?_⟩⟩
    rw [hF]
    intro e he
    simp only [ai_3, si_2]
    refine ⟨?_, ?_⟩
    · rw [if_neg (by omega)]
      split
      · exact b
      · exact (hE e he).1
    · split
      · exact c
      · rw [if_neg (by omega)]; exact (hE e he).2
  all_goals simp [si_1, si_2, sl_1, sl_2, sl_3, ai_1, ai_2, ai_3, ai_4, al_1, al_2, al_3, al_4, S_Mo_effect, F_Mo_effect, S_Mo_effect_j28, F_Mo_effect_j28, S_Mo_effect_j29, F_Mo_effect_j29, isEffect_F, isType_F hT, isEffect_S, isType_S, mbind_eq, a, b, c, EfG]
theorem type_ok {σ : mSt} {T : Nat} (hT : (σ.1 3).toInt = T) (h5 : T ≤ 520) {x1 x2 : Int32} : S_Mo_type σ x1 x2 ∧ (F_Mo_type σ x1 x2).2 = mo_si σ 4 0 := by
  have e : (mo_si σ 4 0).1 3 = σ.1 3 := rfl
  simp only [S_Mo_type, F_Mo_type, e]
  by_cases a : x1 < 3
  · simp only [if_pos a]; trivial
  simp only [if_neg a]
  by_cases b : x1 < σ.1 3
  · have hv : vp_in x1 520 := by ((try (simp only [vp_in, Int32.toNatClampNeg, Int32.lt_iff_toInt_lt, Int32.le_iff_toInt_le, ← Int32.toInt_inj, Int32.toInt_add, Int32.toInt_sub, Int32.toInt_mul, Int32.reduceToInt, i32_neg1, Nat.reducePow, Int.reducePow, ne_eq, ge_iff_le, gt_iff_lt] at *)) <;> (first | omega | ((simp (disch := omega) only [bm32] at *) <;> omega)))
    simp only [if_pos b]
    by_cases c : x2 = 0
    · simp only [if_pos c]; exact ⟨⟨hv, trivial⟩, trivial⟩
    simp only [if_neg c]
    by_cases d : x2 = 1
    · simp only [if_pos d]; exact ⟨⟨hv, trivial⟩, trivial⟩
    simp only [if_neg d]
    by_cases f : x2 = 2
    · simp only [if_pos f]; exact ⟨⟨hv, trivial⟩, trivial⟩
    simp only [if_neg f]; trivial
  · simp only [if_neg b]; trivial
theorem fits_ok {σ : mSt} {T : Nat} (hT : (σ.1 3).toInt = T) (h5 : T ≤ 520) {x1 x2 : Int32} : S_Mo_fits σ x1 x2 ∧ (F_Mo_fits σ x1 x2).2 = mo_si σ 4 0 := by
  have hT' : ((mo_si σ 4 0).1 3).toInt = T := hT
  by_cases a : Is T x1 <;> by_cases b : Is T x2
  case pos =>
    have hv := (ix520 (x := x1) (y := x2) (by unfold Is at a; omega) (by unfold Is at b; omega)).2
    simp [si_1, si_2, sl_1, sl_2, sl_3, ai_1, ai_2, ai_3, ai_4, al_1, al_2, al_3, al_4, S_Mo_fits, F_Mo_fits, isType_F hT', isType_S, mbind_eq, a, b, hv]
    split <;> rfl
  all_goals simp [si_1, si_2, sl_1, sl_2, sl_3, ai_1, ai_2, ai_3, ai_4, al_1, al_2, al_3, al_4, S_Mo_fits, F_Mo_fits, isType_F hT', isType_S, mbind_eq, a, b]
end
section
theorem TOk.congr {σ σ' : mSt} {T : Nat} (h : TOk σ T) (h3 : σ'.1 3 = σ.1 3) (e : ∀ k, 20 ≤ k → k ≤ 23 → σ'.2.2.1 k = σ.2.2.1 k) : TOk σ' T := by
  have e20 := e 20 (by omega) (by omega)
  have e21 := e 21 (by omega) (by omega)
  have e22 := e 22 (by omega) (by omega)
  have e23 := e 23 (by omega) (by omega)
  refine ⟨by rw [h3]; exact h.n, h.lo, h.hi, fun a h1 h2 => ?_, fun i => ?_, fun a b h1 h2 => ?_⟩
  · unfold TB; rw [e20, e21]; exact h.tb a h1 h2
  · rw [e23]; exact h.bits i
  · have := h.fit a b h1 h2
    unfold FitOk Fit Ta Tr at *
    rw [e20, e21, e22, e23]; exact this
def FuG (T : Nat) (x1 x2 x3 : Int32) : Prop := Is T x1 ∧ Is T x2 ∧ Is 256 x3
/-- what function does, as far as the table goes -/
def Funced (σ : mSt) (T : Nat) (w : Int32 × mSt) : Prop := ∃ T', TOk w.2 T' ∧ T ≤ T' ∧ T' ≤ 63 ∧ TFr T σ w.2
theorem TFr.si4 {T : Nat} {σ : mSt} {x : Int32} : TFr T σ (mo_si σ 4 x) := ⟨rfl, rfl, fun k _ h4 => by simp [si_1, si_2, sl_1, sl_2, sl_3, ai_1, ai_2, ai_3, ai_4, al_1, al_2, al_3, al_4, h4], fun _ _ => rfl, fun _ _ => rfl, fun _ _ => rfl, fun _ _ => rfl, fun _ _ _ _ => rfl⟩
theorem TOk.si4 {σ : mSt} {T : Nat} {x : Int32} (h : TOk σ T) : TOk (mo_si σ 4 x) T := h.congr rfl (fun _ _ _ => rfl)
theorem function_48_ok {T : Nat} {σ : mSt} (hT : TOk σ T) (hlt : T ≤ 63) {x1 x2 x3 : Int32} (h1 : Is T x1) (h2 : Is T x2) :
    ∀ (m n : Nat) (y : Int32) (u : Nat), y.toInt = u → 3 ≤ u → u ≤ T → T - u ≤ m → m + 1300 < n → S_Mo_function_48 n σ x1 x2 x3 y ∧ Funced σ T (F_Mo_function_48 n σ x1 x2 x3 y) := by
  have hn := hT.n
  have hlo := hT.lo
  have last : ∀ (n : Nat) (y : Int32), 1300 ≤ n → y.toInt = T → S_Mo_function_48 (n + 1) σ x1 x2 x3 y ∧ Funced σ T (F_Mo_function_48 (n + 1) σ x1 x2 x3 y) := by
    intro n y hn2 hy
    have hc : σ.1 3 ≤ y := by ((try (simp only [vp_in, Int32.toNatClampNeg, Int32.lt_iff_toInt_lt, Int32.le_iff_toInt_le, ← Int32.toInt_inj, Int32.toInt_add, Int32.toInt_sub, Int32.toInt_mul, Int32.reduceToInt, i32_neg1, Nat.reducePow, Int.reducePow, ne_eq, ge_iff_le, gt_iff_lt] at *)) <;> (first | omega | ((simp (disch := omega) only [bm32] at *) <;> omega)))
    simp only [S_Mo_function_48, F_Mo_function_48, if_pos hc]
    by_cases g : σ.1 3 = 63
    · simp only [if_pos g]
      simp [si_1, si_2, sl_1, sl_2, sl_3, ai_1, ai_2, ai_3, ai_4, al_1, al_2, al_3, al_4, S_Mo_function_j114, F_Mo_function_j114]
      exact ⟨T, hT.si4, Nat.le_refl _, hlt, TFr.si4⟩
    · have hT2 : T < 63 := by ((try (simp only [vp_in, Int32.toNatClampNeg, Int32.lt_iff_toInt_lt, Int32.le_iff_toInt_le, ← Int32.toInt_inj, Int32.toInt_add, Int32.toInt_sub, Int32.toInt_mul, Int32.reduceToInt, i32_neg1, Nat.reducePow, Int.reducePow, ne_eq, ge_iff_le, gt_iff_lt] at *)) <;> (first | omega | ((simp (disch := omega) only [bm32] at *) <;> omega)))
      simp only [if_neg g]
      have r := typeOf_ok (σ := mo_si σ 4 0) (T := T) hT.si4 (by omega) (x3 := x3) h1 h2 (n := n) (by omega)
      simp only [S_Mo_function_j114, F_Mo_function_j114, si_1, if_true, mbind_eq]
      obtain ⟨r1, T', r2, r3, r4, r5, _⟩ := r
      exact ⟨⟨r1, trivial⟩, T', r2, r3, by omega, TFr.si4.trans (Nat.le_refl _) r5⟩
  intro m
  induction m with
  | zero =>
    intro n y u hy h3 hu hm hmn
    obtain ⟨n, rfl⟩ : ∃ k, n = k + 1 := ⟨n - 1, by omega⟩
    exact last n y (by omega) (by omega)
  | succ m ih =>
    intro n y u hy h3 hu hm hmn
    obtain ⟨n, rfl⟩ : ∃ k, n = k + 1 := ⟨n - 1, by omega⟩
    by_cases hc : u = T
    · exact last n y (by omega) (by omega)
    have hc' : ¬ σ.1 3 ≤ y := by ((try (simp only [vp_in, Int32.toNatClampNeg, Int32.lt_iff_toInt_lt, Int32.le_iff_toInt_le, ← Int32.toInt_inj, Int32.toInt_add, Int32.toInt_sub, Int32.toInt_mul, Int32.reduceToInt, i32_neg1, Nat.reducePow, Int.reducePow, ne_eq, ge_iff_le, gt_iff_lt] at *)) <;> (first | omega | ((simp (disch := omega) only [bm32] at *) <;> omega)))
    have hv : vp_in y 520 := by ((try (simp only [vp_in, Int32.toNatClampNeg, Int32.lt_iff_toInt_lt, Int32.le_iff_toInt_le, ← Int32.toInt_inj, Int32.toInt_add, Int32.toInt_sub, Int32.toInt_mul, Int32.reduceToInt, i32_neg1, Nat.reducePow, Int.reducePow, ne_eq, ge_iff_le, gt_iff_lt] at *)) <;> (first | omega | ((simp (disch := omega) only [bm32] at *) <;> omega)))
    have r := ih n (y + 1) (u + 1) (by ((try (simp only [vp_in, Int32.toNatClampNeg, Int32.lt_iff_toInt_lt, Int32.le_iff_toInt_le, ← Int32.toInt_inj, Int32.toInt_add, Int32.toInt_sub, Int32.toInt_mul, Int32.reduceToInt, i32_neg1, Nat.reducePow, Int.reducePow, ne_eq, ge_iff_le, gt_iff_lt] at *)) <;> (first | omega | ((simp (disch := omega) only [bm32] at *) <;> omega)))) (by omega) (by omega) (by omega) (by omega)
    have same : Funced σ T (y, σ) := ⟨T, hT, Nat.le_refl _, hlt, TFr.rfl'⟩
    simp only [S_Mo_function_48, F_Mo_function_48, if_neg hc']
    refine ⟨⟨hv, ?_⟩, ?_⟩
    · split
      · refine ⟨hv, ?_⟩
        split
        · refine ⟨hv, ?_⟩
          split
          · trivial
          · exact r.1
        · exact r.1
      · exact r.1
    · split
      · split
        · split
          · exact same
          · exact r.2
        · exact r.2
      · exact r.2
theorem function_ok {T : Nat} {σ : mSt} (hT : TOk σ T) (hlt : T ≤ 63) {n : Nat} (hn : 1500 ≤ n) {x1 x2 x3 : Int32} : S_Mo_function n σ x1 x2 x3 ∧ Funced σ T (F_Mo_function n σ x1 x2 x3) := by
  have h3 := hT.n
  have hlo := hT.lo
  have n1 : ¬ (1 : Int32) = 0 := by decide
  have bad : S_Mo_function_j28 n σ x1 x2 x3 ∧ Funced σ T (F_Mo_function_j28 n σ x1 x2 x3) := by
    simp [si_1, si_2, sl_1, sl_2, sl_3, ai_1, ai_2, ai_3, ai_4, al_1, al_2, al_3, al_4, S_Mo_function_j28, F_Mo_function_j28, S_Mo_function_j33, F_Mo_function_j33]
    exact ⟨T, hT.si4, Nat.le_refl _, hlt, TFr.si4⟩
  simp only [S_Mo_function, F_Mo_function, isType_F h3, isType_S, mbind_eq, true_and]
  by_cases a : Is T x1
  · simp only [if_pos a, if_neg n1]
    by_cases b : Is T x2
    · simp only [if_pos b, if_neg n1]
      by_cases c : x3 < 0
      · simp only [if_pos c]; exact bad
      simp only [if_neg c]
      by_cases d : x3 ≤ 255
      · simp only [if_pos d, S_Mo_function_j33, F_Mo_function_j33, si_1, if_true]
        have r := function_48_ok (σ := mo_si σ 4 0) hT.si4 hlt (x3 := x3) a b (T - 3) n 3 3 rfl (by omega) (by omega) (by omega) (by omega)
        obtain ⟨r1, T', r2, r3, r4, r5⟩ := r
        exact ⟨r1, T', r2, r3, r4, TFr.si4.trans (Nat.le_refl _) r5⟩
      · simp only [if_neg d]; exact bad
    · simp only [if_neg b, if_true]; exact bad
  · simp only [if_neg a, if_true]; exact bad
end
section
theorem vin {x : Int32} {n : Nat} (h : (decide (x < 0) || decide (n ≤ x.toNatClampNeg)) = false) : vp_in x n := by
  unfold vp_in; simpa [si_1, si_2, sl_1, sl_2, sl_3, ai_1, ai_2, ai_3, ai_4, al_1, al_2, al_3, al_4] using h
theorem clear_27_eq (k : Nat) (σ : mSt) : S_Mo_clear_27 (k + 9) σ 0 ∧ F_Mo_clear_27 (k + 9) σ 0 = mo_ai (mo_ai (mo_ai (mo_ai (mo_ai (mo_ai (mo_ai (mo_ai (mo_ai (mo_ai (mo_ai (mo_ai (mo_ai (mo_ai (mo_ai (mo_ai σ 24 0 0) 25 0 0) 24 1 0) 25 1 0) 24 2 0) 25 2 0) 24 3 0) 25 3 0) 24 4 0) 25 4 0) 24 5 0) 25 5 0) 24 6 0) 25 6 0) 24 7 0) 25 7 0 := by
  have v0 : vp_in 0 8 := vin (by decide)
  have v1 : vp_in 1 8 := vin (by decide)
  have v2 : vp_in 2 8 := vin (by decide)
  have v3 : vp_in 3 8 := vin (by decide)
  have v4 : vp_in 4 8 := vin (by decide)
  have v5 : vp_in 5 8 := vin (by decide)
  have v6 : vp_in 6 8 := vin (by decide)
  have v7 : vp_in 7 8 := vin (by decide)
  constructor
  · simp [si_1, si_2, sl_1, sl_2, sl_3, ai_1, ai_2, ai_3, ai_4, al_1, al_2, al_3, al_4, S_Mo_clear_27, v0, v1, v2, v3, v4, v5, v6, v7]
  · simp [si_1, si_2, sl_1, sl_2, sl_3, ai_1, ai_2, ai_3, ai_4, al_1, al_2, al_3, al_4, F_Mo_clear_27]
theorem clear_55_eq (k : Nat) (σ : mSt) : S_Mo_clear_55 (k + 9) σ 0 ∧ F_Mo_clear_55 (k + 9) σ 0 = mo_ai (mo_ai (mo_ai (mo_ai (mo_ai (mo_ai (mo_ai (mo_ai (mo_ai σ 23 0 1) 23 1 0) 23 2 0) 23 520 0) 23 521 1) 23 522 0) 23 1040 0) 23 1041 0) 23 1042 1 := by
  have v0 : vp_in 0 270400 := vin (by decide)
  have v1 : vp_in 1 270400 := vin (by decide)
  have v2 : vp_in 2 270400 := vin (by decide)
  have v3 : vp_in 520 270400 := vin (by decide)
  have v4 : vp_in 521 270400 := vin (by decide)
  have v5 : vp_in 522 270400 := vin (by decide)
  have v6 : vp_in 1040 270400 := vin (by decide)
  have v7 : vp_in 1041 270400 := vin (by decide)
  have v8 : vp_in 1042 270400 := vin (by decide)
  constructor
  · simp [si_1, si_2, sl_1, sl_2, sl_3, ai_1, ai_2, ai_3, ai_4, al_1, al_2, al_3, al_4, S_Mo_clear_55, S_Mo_clear_62, F_Mo_clear_62, mbind_eq, v0, v1, v2, v3, v4, v5, v6, v7, v8]
  · simp [si_1, si_2, sl_1, sl_2, sl_3, ai_1, ai_2, ai_3, ai_4, al_1, al_2, al_3, al_4, F_Mo_clear_55, F_Mo_clear_62, mbind_eq]
theorem clear_ok {σ : mSt} (hB : Tbits σ) {n : Nat} (hn : 9 ≤ n) : S_Mo_clear n σ ∧ TOk (F_Mo_clear n σ) 3 ∧ NOk (F_Mo_clear n σ) 0 0 0 3 ∧ EOk (F_Mo_clear n σ) 3 ∧ (F_Mo_clear n σ).1 36 = -1 ∧ (F_Mo_clear n σ).1 46 = 0 := by
  obtain ⟨k, rfl⟩ : ∃ k, n = k + 9 := ⟨n - 9, by omega⟩
  simp only [S_Mo_clear, F_Mo_clear, mbind_eq, (clear_27_eq k _).2, (clear_55_eq k _).2]
  refine ⟨⟨(clear_27_eq k _).1, (clear_55_eq k _).1, trivial⟩, ?_⟩
  generalize hσ1 : mo_si (mo_si (mo_si (mo_si (mo_si σ 4 0) 0 0) 1 0) 2 0) 3 3 = σ1
  have b1 : Tbits σ1 := by subst hσ1; exact hB
  have f0 : σ1.1 0 = 0 := by subst hσ1; simp [si_1, si_2, sl_1, sl_2, sl_3, ai_1, ai_2, ai_3, ai_4, al_1, al_2, al_3, al_4]
  have f1 : σ1.1 1 = 0 := by subst hσ1; simp [si_1, si_2, sl_1, sl_2, sl_3, ai_1, ai_2, ai_3, ai_4, al_1, al_2, al_3, al_4]
  have f2 : σ1.1 2 = 0 := by subst hσ1; simp [si_1, si_2, sl_1, sl_2, sl_3, ai_1, ai_2, ai_3, ai_4, al_1, al_2, al_3, al_4]
  have f3 : σ1.1 3 = 3 := by subst hσ1; simp [si_1, si_2, sl_1, sl_2, sl_3, ai_1, ai_2, ai_3, ai_4, al_1, al_2, al_3, al_4]
  have bits : ∀ (τ : mSt) (i : Nat) (x : Int32), Tbits τ → (x = 0 ∨ x = 1) → Tbits (mo_ai τ 23 i x) := by
    intro τ i x h hx j
    rw [ai_3]
    split
    · exact hx
    · exact h j
  have bits2 : ∀ (τ : mSt) (k i : Nat) (x : Int32), k ≠ 23 → Tbits τ → Tbits (mo_ai τ k i x) := by
    intro τ k i x hk h j
    rw [ai_3, if_neg (by omega)]; exact h j
  have B : Tbits (mo_ai (mo_ai (mo_ai (mo_ai (mo_ai (mo_ai (mo_ai (mo_ai (mo_ai (mo_ai (mo_ai (mo_ai (mo_ai (mo_ai (mo_ai (mo_ai (mo_ai (mo_ai (mo_ai (mo_ai (mo_ai (mo_ai (mo_ai (mo_ai (mo_ai σ1 24 0 0) 25 0 0) 24 1 0) 25 1 0) 24 2 0) 25 2 0) 24 3 0) 25 3 0) 24 4 0) 25 4 0) 24 5 0) 25 5 0) 24 6 0) 25 6 0) 24 7 0) 25 7 0) 23 0 1) 23 1 0) 23 2 0) 23 520 0) 23 521 1) 23 522 0) 23 1040 0) 23 1041 0) 23 1042 1) := by
    refine bits _ _ _ (bits _ _ _ (bits _ _ _ (bits _ _ _ (bits _ _ _ (bits _ _ _ (bits _ _ _ (bits _ _ _ (bits _ _ _ ?_ ?_) ?_) ?_) ?_) ?_) ?_) ?_) ?_) ?_
    · refine bits2 _ _ _ _ (by decide) (bits2 _ _ _ _ (by decide) (bits2 _ _ _ _ (by decide) (bits2 _ _ _ _ (by decide) (bits2 _ _ _ _ (by decide) (bits2 _ _ _ _ (by decide) (bits2 _ _ _ _ (by decide) (bits2 _ _ _ _ (by decide) (bits2 _ _ _ _ (by decide) (bits2 _ _ _ _ (by decide) (bits2 _ _ _ _ (by decide) (bits2 _ _ _ _ (by decide) (bits2 _ _ _ _ (by decide) (bits2 _ _ _ _ (by decide) (bits2 _ _ _ _ (by decide) (bits2 _ _ _ _ (by decide) b1)))))))))))))))
    all_goals decide
  generalize hσ2 : mo_ai (mo_ai (mo_ai (mo_ai (mo_ai (mo_ai (mo_ai (mo_ai (mo_ai (mo_ai (mo_ai (mo_ai (mo_ai (mo_ai (mo_ai (mo_ai σ1 24 0 0) 25 0 0) 24 1 0) 25 1 0) 24 2 0) 25 2 0) 24 3 0) 25 3 0) 24 4 0) 25 4 0) 24 5 0) 25 5 0) 24 6 0) 25 6 0) 24 7 0) 25 7 0 = σ2 at B ⊢
  have e8 : ∀ e, e < 8 → σ2.2.2.1 24 e = 0 ∧ σ2.2.2.1 25 e = 0 := by
    subst hσ2
    intro e he
    match e, he with
    | 0, _ => simp [si_1, si_2, sl_1, sl_2, sl_3, ai_1, ai_2, ai_3, ai_4, al_1, al_2, al_3, al_4]
    | 1, _ => simp [si_1, si_2, sl_1, sl_2, sl_3, ai_1, ai_2, ai_3, ai_4, al_1, al_2, al_3, al_4]
    | 2, _ => simp [si_1, si_2, sl_1, sl_2, sl_3, ai_1, ai_2, ai_3, ai_4, al_1, al_2, al_3, al_4]
    | 3, _ => simp [si_1, si_2, sl_1, sl_2, sl_3, ai_1, ai_2, ai_3, ai_4, al_1, al_2, al_3, al_4]
    | 4, _ => simp [si_1, si_2, sl_1, sl_2, sl_3, ai_1, ai_2, ai_3, ai_4, al_1, al_2, al_3, al_4]
    | 5, _ => simp [si_1, si_2, sl_1, sl_2, sl_3, ai_1, ai_2, ai_3, ai_4, al_1, al_2, al_3, al_4]
    | 6, _ => simp [si_1, si_2, sl_1, sl_2, sl_3, ai_1, ai_2, ai_3, ai_4, al_1, al_2, al_3, al_4]
    | 7, _ => simp [si_1, si_2, sl_1, sl_2, sl_3, ai_1, ai_2, ai_3, ai_4, al_1, al_2, al_3, al_4]
  have g0 : σ2.1 = σ1.1 := by rw [← hσ2]; simp only [ai_1]
  generalize hσ3 : mo_ai (mo_ai (mo_ai (mo_ai (mo_ai (mo_ai (mo_ai (mo_ai (mo_ai σ2 23 0 1) 23 1 0) 23 2 0) 23 520 0) 23 521 1) 23 522 0) 23 1040 0) 23 1041 0) 23 1042 1 = σ3 at B ⊢
  have fit : ∀ a b, a < 3 → b < 3 → FitOk σ3 a b := by
    intro a b ha hb
    have e : Fit σ3 a b ↔ a = b := by
      subst hσ3
      unfold Fit
      match a, b, ha, hb with
      | 0, 0, _, _ => simp [si_1, si_2, sl_1, sl_2, sl_3, ai_1, ai_2, ai_3, ai_4, al_1, al_2, al_3, al_4]
      | 1, 1, _, _ => simp [si_1, si_2, sl_1, sl_2, sl_3, ai_1, ai_2, ai_3, ai_4, al_1, al_2, al_3, al_4]
      | 2, 2, _, _ => simp [si_1, si_2, sl_1, sl_2, sl_3, ai_1, ai_2, ai_3, ai_4, al_1, al_2, al_3, al_4]
      | 0, 1, _, _ => simp [si_1, si_2, sl_1, sl_2, sl_3, ai_1, ai_2, ai_3, ai_4, al_1, al_2, al_3, al_4]
      | 0, 2, _, _ => simp [si_1, si_2, sl_1, sl_2, sl_3, ai_1, ai_2, ai_3, ai_4, al_1, al_2, al_3, al_4]
      | 1, 0, _, _ => simp [si_1, si_2, sl_1, sl_2, sl_3, ai_1, ai_2, ai_3, ai_4, al_1, al_2, al_3, al_4]
      | 1, 2, _, _ => simp [si_1, si_2, sl_1, sl_2, sl_3, ai_1, ai_2, ai_3, ai_4, al_1, al_2, al_3, al_4]
      | 2, 0, _, _ => simp [si_1, si_2, sl_1, sl_2, sl_3, ai_1, ai_2, ai_3, ai_4, al_1, al_2, al_3, al_4]
      | 2, 1, _, _ => simp [si_1, si_2, sl_1, sl_2, sl_3, ai_1, ai_2, ai_3, ai_4, al_1, al_2, al_3, al_4]
    unfold FitOk
    rw [e]
    constructor
    · exact Or.inl
    · rintro (h | h)
      · exact h
      · omega
  have h0 : σ3.1 = σ1.1 := by rw [← hσ3]; simp only [ai_1]; exact g0
  have h24 : σ3.2.2.1 24 = σ2.2.2.1 24 := by subst hσ3; funext i; simp [si_1, si_2, sl_1, sl_2, sl_3, ai_1, ai_2, ai_3, ai_4, al_1, al_2, al_3, al_4]
  have h25 : σ3.2.2.1 25 = σ2.2.2.1 25 := by subst hσ3; funext i; simp [si_1, si_2, sl_1, sl_2, sl_3, ai_1, ai_2, ai_3, ai_4, al_1, al_2, al_3, al_4]
  have t3 : TOk σ3 3 := ⟨by rw [h0, f3]; rfl, by omega, by omega, fun a h1 h2 => by omega, B, fun a b ha hb => fit a b ha hb⟩
  refine ⟨t3.congr (by simp [si_1, si_2, sl_1, sl_2, sl_3, ai_1, ai_2, ai_3, ai_4, al_1, al_2, al_3, al_4]) (fun k h1 h2 => by simp [si_1, si_2, sl_1, sl_2, sl_3, ai_1, ai_2, ai_3, ai_4, al_1, al_2, al_3, al_4]), ⟨by simp [si_1, si_2, sl_1, sl_2, sl_3, ai_1, ai_2, ai_3, ai_4, al_1, al_2, al_3, al_4, h0, f0], by omega, by simp [si_1, si_2, sl_1, sl_2, sl_3, ai_1, ai_2, ai_3, ai_4, al_1, al_2, al_3, al_4, h0, f1], by omega, by simp [si_1, si_2, sl_1, sl_2, sl_3, ai_1, ai_2, ai_3, ai_4, al_1, al_2, al_3, al_4, h0, f2], by omega, fun i hi => by omega, fun i hi => by omega⟩, fun e he => ?_, by simp [si_1, si_2, sl_1, sl_2, sl_3, ai_1, ai_2, ai_3, ai_4, al_1, al_2, al_3, al_4], by simp [si_1, si_2, sl_1, sl_2, sl_3, ai_1, ai_2, ai_3, ai_4, al_1, al_2, al_3, al_4]⟩
  have := e8 e he
  simp only [sl_3, si_2, h24, h25, this.1, this.2]
  exact ⟨⟨by decide, by decide⟩, ⟨by decide, by decide⟩⟩
end
section
/-! pure rows: the typing that the checking finds -/
/-- which types are functions from what to what, which fit which -/
abbrev Facts : Type := (Nat → Nat → Nat → Prop) × (Nat → Nat → Prop)
abbrev Facts.fn (self : Facts) : Nat → Nat → Nat → Prop := self.1
abbrev Facts.fit (self : Facts) : Nat → Nat → Prop := self.2
theorem Facts.fn_mk (y_0 : Nat → Nat → Nat → Prop) (y_1 : Nat → Nat → Prop) : Facts.fn (y_0, y_1) = y_0 := rfl
theorem Facts.fit_mk (y_0 : Nat → Nat → Nat → Prop) (y_1 : Nat → Nat → Prop) : Facts.fit (y_0, y_1) = y_1 := rfl
def Facts.le (P Q : Facts) : Prop := (∀ r a b, P.fn r a b → Q.fn r a b) ∧ ∀ t u, P.fit t u → Q.fit t u
def env (g : Nat → Int) (x : Nat) (t : Int) : Nat → Int := fun k => if k = x then t else g k
/-- the typing of node n, over the nodes' arrays A, with what the effects take and give -/
def Ty (A : Nat → Nat → Int32) (P : Facts) (tk gv : Nat → Nat) (i_0 : (Nat → Int)) (i_1 : Nat) (i_2 : Nat) : Prop := ∀ R_ : (Nat → Int) → Nat → Nat → Prop, (∀ (g : Nat → Int) (n : Nat), (A 5 n).toInt = 0 → R_ g n 0) → (∀ (g : Nat → Int) (n : Nat), (A 5 n).toInt = 1 → R_ g n 1) → (∀ (g : Nat → Int) (n : Nat), (A 5 n).toInt = 2 → R_ g n 2) → (∀ (g : Nat → Int) (n t : Nat), (A 5 n).toInt = 3 → g (A 6 n).toInt.toNat = t → R_ g n t) → (∀ (g : Nat → Int) (n t u : Nat), (A 5 n).toInt = 4 → R_ g (A 9 n).toInt.toNat t → R_ (env g (A 6 n).toInt.toNat t) (A 10 n).toInt.toNat u → R_ g n u) → (∀ (g : Nat → Int) (n f a r t u : Nat), (A 5 n).toInt = 5 → (A 8 n).toInt = f → P.fn f a r → R_ (env (env g (A 6 n).toInt.toNat f) (A 7 n).toInt.toNat a) (A 9 n).toInt.toNat t → P.fit t r → R_ (env g (A 6 n).toInt.toNat f) (A 10 n).toInt.toNat u → R_ g n u) → (∀ (g : Nat → Int) (n t : Nat), (A 5 n).toInt = 6 → R_ g (A 9 n).toInt.toNat 1 → R_ g (A 10 n).toInt.toNat t → R_ g (A 11 n).toInt.toNat t → R_ g n t) → (∀ (g : Nat → Int) (n r a t : Nat), (A 5 n).toInt = 7 → (A 7 n).toInt = a → R_ (env g (A 6 n).toInt.toNat a) (A 9 n).toInt.toNat t → P.fn r a t → R_ g n r) → (∀ (g : Nat → Int) (n t u : Nat) (ks us : Nat → Nat), (A 5 n).toInt = 8 → R_ g (A 9 n).toInt.toNat t → R_ (env g (A 6 n).toInt.toNat t) (A 10 n).toInt.toNat u → (∀ q, (A 14 n).toInt.toNat ≤ q → q < (A 14 n).toInt.toNat + (A 15 n).toInt.toNat → P.fn (ks q) (gv (A 16 q).toInt.toNat) u) → (∀ q, (A 14 n).toInt.toNat ≤ q → q < (A 14 n).toInt.toNat + (A 15 n).toInt.toNat → R_ (env (env g (A 17 q).toInt.toNat (tk (A 16 q).toInt.toNat)) (A 18 q).toInt.toNat (ks q)) (A 19 q).toInt.toNat (us q)) → (∀ q, (A 14 n).toInt.toNat ≤ q → q < (A 14 n).toInt.toNat + (A 15 n).toInt.toNat → P.fit (us q) u) → R_ g n u) → (∀ (g : Nat → Int) (n : Nat), (A 5 n).toInt = 9 → R_ g (A 9 n).toInt.toNat 0 → R_ g (A 10 n).toInt.toNat 0 → R_ g n (if (A 6 n).toInt < 3 then 0 else 1)) → (∀ (g : Nat → Int) (n f a r t : Nat), (A 5 n).toInt = 10 → R_ g (A 9 n).toInt.toNat f → P.fn f a r → R_ g (A 10 n).toInt.toNat t → P.fit t a → R_ g n r) → (∀ (g : Nat → Int) (n t : Nat), (A 5 n).toInt = 11 → R_ g (A 9 n).toInt.toNat t → P.fit t (tk (A 6 n).toInt.toNat) → R_ g n (gv (A 6 n).toInt.toNat)) → R_ i_0 i_1 i_2
theorem Ty.num {A : Nat → Nat → Int32} {P : Facts} {tk gv : Nat → Nat} {g : Nat → Int} {n : Nat} (p_0 : (A 5 n).toInt = 0) : Ty A P tk gv g n 0 := fun R_ h_0 h_1 h_2 h_3 h_4 h_5 h_6 h_7 h_8 h_9 h_10 h_11 => h_0 g n p_0
theorem Ty.tru {A : Nat → Nat → Int32} {P : Facts} {tk gv : Nat → Nat} {g : Nat → Int} {n : Nat} (p_0 : (A 5 n).toInt = 1) : Ty A P tk gv g n 1 := fun R_ h_0 h_1 h_2 h_3 h_4 h_5 h_6 h_7 h_8 h_9 h_10 h_11 => h_1 g n p_0
theorem Ty.uni {A : Nat → Nat → Int32} {P : Facts} {tk gv : Nat → Nat} {g : Nat → Int} {n : Nat} (p_0 : (A 5 n).toInt = 2) : Ty A P tk gv g n 2 := fun R_ h_0 h_1 h_2 h_3 h_4 h_5 h_6 h_7 h_8 h_9 h_10 h_11 => h_2 g n p_0
theorem Ty.nam {A : Nat → Nat → Int32} {P : Facts} {tk gv : Nat → Nat} {g : Nat → Int} {n t : Nat} (p_0 : (A 5 n).toInt = 3) (p_1 : g (A 6 n).toInt.toNat = t) : Ty A P tk gv g n t := fun R_ h_0 h_1 h_2 h_3 h_4 h_5 h_6 h_7 h_8 h_9 h_10 h_11 => h_3 g n t p_0 p_1
theorem Ty.lett {A : Nat → Nat → Int32} {P : Facts} {tk gv : Nat → Nat} {g : Nat → Int} {n t u : Nat} (p_0 : (A 5 n).toInt = 4) (p_1 : Ty A P tk gv g (A 9 n).toInt.toNat t) (p_2 : Ty A P tk gv (env g (A 6 n).toInt.toNat t) (A 10 n).toInt.toNat u) : Ty A P tk gv g n u := fun R_ h_0 h_1 h_2 h_3 h_4 h_5 h_6 h_7 h_8 h_9 h_10 h_11 => h_4 g n t u p_0 (p_1 R_ h_0 h_1 h_2 h_3 h_4 h_5 h_6 h_7 h_8 h_9 h_10 h_11) (p_2 R_ h_0 h_1 h_2 h_3 h_4 h_5 h_6 h_7 h_8 h_9 h_10 h_11)
theorem Ty.rek {A : Nat → Nat → Int32} {P : Facts} {tk gv : Nat → Nat} {g : Nat → Int} {n f a r t u : Nat} (p_0 : (A 5 n).toInt = 5) (p_1 : (A 8 n).toInt = f) (p_2 : P.fn f a r) (p_3 : Ty A P tk gv (env (env g (A 6 n).toInt.toNat f) (A 7 n).toInt.toNat a) (A 9 n).toInt.toNat t) (p_4 : P.fit t r) (p_5 : Ty A P tk gv (env g (A 6 n).toInt.toNat f) (A 10 n).toInt.toNat u) : Ty A P tk gv g n u := fun R_ h_0 h_1 h_2 h_3 h_4 h_5 h_6 h_7 h_8 h_9 h_10 h_11 => h_5 g n f a r t u p_0 p_1 p_2 (p_3 R_ h_0 h_1 h_2 h_3 h_4 h_5 h_6 h_7 h_8 h_9 h_10 h_11) p_4 (p_5 R_ h_0 h_1 h_2 h_3 h_4 h_5 h_6 h_7 h_8 h_9 h_10 h_11)
theorem Ty.ite {A : Nat → Nat → Int32} {P : Facts} {tk gv : Nat → Nat} {g : Nat → Int} {n t : Nat} (p_0 : (A 5 n).toInt = 6) (p_1 : Ty A P tk gv g (A 9 n).toInt.toNat 1) (p_2 : Ty A P tk gv g (A 10 n).toInt.toNat t) (p_3 : Ty A P tk gv g (A 11 n).toInt.toNat t) : Ty A P tk gv g n t := fun R_ h_0 h_1 h_2 h_3 h_4 h_5 h_6 h_7 h_8 h_9 h_10 h_11 => h_6 g n t p_0 (p_1 R_ h_0 h_1 h_2 h_3 h_4 h_5 h_6 h_7 h_8 h_9 h_10 h_11) (p_2 R_ h_0 h_1 h_2 h_3 h_4 h_5 h_6 h_7 h_8 h_9 h_10 h_11) (p_3 R_ h_0 h_1 h_2 h_3 h_4 h_5 h_6 h_7 h_8 h_9 h_10 h_11)
theorem Ty.fn {A : Nat → Nat → Int32} {P : Facts} {tk gv : Nat → Nat} {g : Nat → Int} {n r a t : Nat} (p_0 : (A 5 n).toInt = 7) (p_1 : (A 7 n).toInt = a) (p_2 : Ty A P tk gv (env g (A 6 n).toInt.toNat a) (A 9 n).toInt.toNat t) (p_3 : P.fn r a t) : Ty A P tk gv g n r := fun R_ h_0 h_1 h_2 h_3 h_4 h_5 h_6 h_7 h_8 h_9 h_10 h_11 => h_7 g n r a t p_0 p_1 (p_2 R_ h_0 h_1 h_2 h_3 h_4 h_5 h_6 h_7 h_8 h_9 h_10 h_11) p_3
theorem Ty.han {A : Nat → Nat → Int32} {P : Facts} {tk gv : Nat → Nat} {g : Nat → Int} {n t u : Nat} (ks us : Nat → Nat) (p_0 : (A 5 n).toInt = 8) (p_1 : Ty A P tk gv g (A 9 n).toInt.toNat t) (p_2 : Ty A P tk gv (env g (A 6 n).toInt.toNat t) (A 10 n).toInt.toNat u) (p_3 : (∀ q, (A 14 n).toInt.toNat ≤ q → q < (A 14 n).toInt.toNat + (A 15 n).toInt.toNat → P.fn (ks q) (gv (A 16 q).toInt.toNat) u)) (p_4 : (∀ q, (A 14 n).toInt.toNat ≤ q → q < (A 14 n).toInt.toNat + (A 15 n).toInt.toNat → Ty A P tk gv (env (env g (A 17 q).toInt.toNat (tk (A 16 q).toInt.toNat)) (A 18 q).toInt.toNat (ks q)) (A 19 q).toInt.toNat (us q))) (p_5 : (∀ q, (A 14 n).toInt.toNat ≤ q → q < (A 14 n).toInt.toNat + (A 15 n).toInt.toNat → P.fit (us q) u)) : Ty A P tk gv g n u := fun R_ h_0 h_1 h_2 h_3 h_4 h_5 h_6 h_7 h_8 h_9 h_10 h_11 => h_8 g n t u ks us p_0 (p_1 R_ h_0 h_1 h_2 h_3 h_4 h_5 h_6 h_7 h_8 h_9 h_10 h_11) (p_2 R_ h_0 h_1 h_2 h_3 h_4 h_5 h_6 h_7 h_8 h_9 h_10 h_11) p_3 (fun q a_0 a_1 => p_4 q a_0 a_1 R_ h_0 h_1 h_2 h_3 h_4 h_5 h_6 h_7 h_8 h_9 h_10 h_11) p_5
theorem Ty.two {A : Nat → Nat → Int32} {P : Facts} {tk gv : Nat → Nat} {g : Nat → Int} {n : Nat} (p_0 : (A 5 n).toInt = 9) (p_1 : Ty A P tk gv g (A 9 n).toInt.toNat 0) (p_2 : Ty A P tk gv g (A 10 n).toInt.toNat 0) : Ty A P tk gv g n (if (A 6 n).toInt < 3 then 0 else 1) := fun R_ h_0 h_1 h_2 h_3 h_4 h_5 h_6 h_7 h_8 h_9 h_10 h_11 => h_9 g n p_0 (p_1 R_ h_0 h_1 h_2 h_3 h_4 h_5 h_6 h_7 h_8 h_9 h_10 h_11) (p_2 R_ h_0 h_1 h_2 h_3 h_4 h_5 h_6 h_7 h_8 h_9 h_10 h_11)
theorem Ty.cal {A : Nat → Nat → Int32} {P : Facts} {tk gv : Nat → Nat} {g : Nat → Int} {n f a r t : Nat} (p_0 : (A 5 n).toInt = 10) (p_1 : Ty A P tk gv g (A 9 n).toInt.toNat f) (p_2 : P.fn f a r) (p_3 : Ty A P tk gv g (A 10 n).toInt.toNat t) (p_4 : P.fit t a) : Ty A P tk gv g n r := fun R_ h_0 h_1 h_2 h_3 h_4 h_5 h_6 h_7 h_8 h_9 h_10 h_11 => h_10 g n f a r t p_0 (p_1 R_ h_0 h_1 h_2 h_3 h_4 h_5 h_6 h_7 h_8 h_9 h_10 h_11) p_2 (p_3 R_ h_0 h_1 h_2 h_3 h_4 h_5 h_6 h_7 h_8 h_9 h_10 h_11) p_4
theorem Ty.per {A : Nat → Nat → Int32} {P : Facts} {tk gv : Nat → Nat} {g : Nat → Int} {n t : Nat} (p_0 : (A 5 n).toInt = 11) (p_1 : Ty A P tk gv g (A 9 n).toInt.toNat t) (p_2 : P.fit t (tk (A 6 n).toInt.toNat)) : Ty A P tk gv g n (gv (A 6 n).toInt.toNat) := fun R_ h_0 h_1 h_2 h_3 h_4 h_5 h_6 h_7 h_8 h_9 h_10 h_11 => h_11 g n t p_0 (p_1 R_ h_0 h_1 h_2 h_3 h_4 h_5 h_6 h_7 h_8 h_9 h_10 h_11) p_2
theorem Ty.ind {A : Nat → Nat → Int32} {P : Facts} {tk gv : Nat → Nat} {motive : ∀ (i_0 : (Nat → Int)) (i_1 : Nat) (i_2 : Nat), Ty A P tk gv i_0 i_1 i_2 → Prop} (num : ∀ {g : Nat → Int} {n : Nat} (p_0 : (A 5 n).toInt = 0), motive g n 0 (Ty.num p_0)) (tru : ∀ {g : Nat → Int} {n : Nat} (p_0 : (A 5 n).toInt = 1), motive g n 1 (Ty.tru p_0)) (uni : ∀ {g : Nat → Int} {n : Nat} (p_0 : (A 5 n).toInt = 2), motive g n 2 (Ty.uni p_0)) (nam : ∀ {g : Nat → Int} {n t : Nat} (p_0 : (A 5 n).toInt = 3) (p_1 : g (A 6 n).toInt.toNat = t), motive g n t (Ty.nam p_0 p_1)) (lett : ∀ {g : Nat → Int} {n t u : Nat} (p_0 : (A 5 n).toInt = 4) (p_1 : Ty A P tk gv g (A 9 n).toInt.toNat t) (p_2 : Ty A P tk gv (env g (A 6 n).toInt.toNat t) (A 10 n).toInt.toNat u), (motive g (A 9 n).toInt.toNat t (p_1)) → (motive (env g (A 6 n).toInt.toNat t) (A 10 n).toInt.toNat u (p_2)) → motive g n u (Ty.lett p_0 p_1 p_2)) (rek : ∀ {g : Nat → Int} {n f a r t u : Nat} (p_0 : (A 5 n).toInt = 5) (p_1 : (A 8 n).toInt = f) (p_2 : P.fn f a r) (p_3 : Ty A P tk gv (env (env g (A 6 n).toInt.toNat f) (A 7 n).toInt.toNat a) (A 9 n).toInt.toNat t) (p_4 : P.fit t r) (p_5 : Ty A P tk gv (env g (A 6 n).toInt.toNat f) (A 10 n).toInt.toNat u), (motive (env (env g (A 6 n).toInt.toNat f) (A 7 n).toInt.toNat a) (A 9 n).toInt.toNat t (p_3)) → (motive (env g (A 6 n).toInt.toNat f) (A 10 n).toInt.toNat u (p_5)) → motive g n u (Ty.rek p_0 p_1 p_2 p_3 p_4 p_5)) (ite : ∀ {g : Nat → Int} {n t : Nat} (p_0 : (A 5 n).toInt = 6) (p_1 : Ty A P tk gv g (A 9 n).toInt.toNat 1) (p_2 : Ty A P tk gv g (A 10 n).toInt.toNat t) (p_3 : Ty A P tk gv g (A 11 n).toInt.toNat t), (motive g (A 9 n).toInt.toNat 1 (p_1)) → (motive g (A 10 n).toInt.toNat t (p_2)) → (motive g (A 11 n).toInt.toNat t (p_3)) → motive g n t (Ty.ite p_0 p_1 p_2 p_3)) (fn : ∀ {g : Nat → Int} {n r a t : Nat} (p_0 : (A 5 n).toInt = 7) (p_1 : (A 7 n).toInt = a) (p_2 : Ty A P tk gv (env g (A 6 n).toInt.toNat a) (A 9 n).toInt.toNat t) (p_3 : P.fn r a t), (motive (env g (A 6 n).toInt.toNat a) (A 9 n).toInt.toNat t (p_2)) → motive g n r (Ty.fn p_0 p_1 p_2 p_3)) (han : ∀ {g : Nat → Int} {n t u : Nat} (ks us : Nat → Nat) (p_0 : (A 5 n).toInt = 8) (p_1 : Ty A P tk gv g (A 9 n).toInt.toNat t) (p_2 : Ty A P tk gv (env g (A 6 n).toInt.toNat t) (A 10 n).toInt.toNat u) (p_3 : (∀ q, (A 14 n).toInt.toNat ≤ q → q < (A 14 n).toInt.toNat + (A 15 n).toInt.toNat → P.fn (ks q) (gv (A 16 q).toInt.toNat) u)) (p_4 : (∀ q, (A 14 n).toInt.toNat ≤ q → q < (A 14 n).toInt.toNat + (A 15 n).toInt.toNat → Ty A P tk gv (env (env g (A 17 q).toInt.toNat (tk (A 16 q).toInt.toNat)) (A 18 q).toInt.toNat (ks q)) (A 19 q).toInt.toNat (us q))) (p_5 : (∀ q, (A 14 n).toInt.toNat ≤ q → q < (A 14 n).toInt.toNat + (A 15 n).toInt.toNat → P.fit (us q) u)), (motive g (A 9 n).toInt.toNat t (p_1)) → (motive (env g (A 6 n).toInt.toNat t) (A 10 n).toInt.toNat u (p_2)) → (∀ q (a_0 : (A 14 n).toInt.toNat ≤ q) (a_1 : q < (A 14 n).toInt.toNat + (A 15 n).toInt.toNat), motive (env (env g (A 17 q).toInt.toNat (tk (A 16 q).toInt.toNat)) (A 18 q).toInt.toNat (ks q)) (A 19 q).toInt.toNat (us q) (p_4 q a_0 a_1)) → motive g n u (Ty.han ks us p_0 p_1 p_2 p_3 p_4 p_5)) (two : ∀ {g : Nat → Int} {n : Nat} (p_0 : (A 5 n).toInt = 9) (p_1 : Ty A P tk gv g (A 9 n).toInt.toNat 0) (p_2 : Ty A P tk gv g (A 10 n).toInt.toNat 0), (motive g (A 9 n).toInt.toNat 0 (p_1)) → (motive g (A 10 n).toInt.toNat 0 (p_2)) → motive g n (if (A 6 n).toInt < 3 then 0 else 1) (Ty.two p_0 p_1 p_2)) (cal : ∀ {g : Nat → Int} {n f a r t : Nat} (p_0 : (A 5 n).toInt = 10) (p_1 : Ty A P tk gv g (A 9 n).toInt.toNat f) (p_2 : P.fn f a r) (p_3 : Ty A P tk gv g (A 10 n).toInt.toNat t) (p_4 : P.fit t a), (motive g (A 9 n).toInt.toNat f (p_1)) → (motive g (A 10 n).toInt.toNat t (p_3)) → motive g n r (Ty.cal p_0 p_1 p_2 p_3 p_4)) (per : ∀ {g : Nat → Int} {n t : Nat} (p_0 : (A 5 n).toInt = 11) (p_1 : Ty A P tk gv g (A 9 n).toInt.toNat t) (p_2 : P.fit t (tk (A 6 n).toInt.toNat)), (motive g (A 9 n).toInt.toNat t (p_1)) → motive g n (gv (A 6 n).toInt.toNat) (Ty.per p_0 p_1 p_2)) {i_0 : (Nat → Int)} {i_1 : Nat} {i_2 : Nat} (h : Ty A P tk gv i_0 i_1 i_2) : motive i_0 i_1 i_2 h := Exists.elim (h (fun i_0 i_1 i_2 => ∃ h : Ty A P tk gv i_0 i_1 i_2, motive i_0 i_1 i_2 h) (fun g n p_0 => ⟨Ty.num p_0, num p_0⟩) (fun g n p_0 => ⟨Ty.tru p_0, tru p_0⟩) (fun g n p_0 => ⟨Ty.uni p_0, uni p_0⟩) (fun g n t p_0 p_1 => ⟨Ty.nam p_0 p_1, nam p_0 p_1⟩) (fun g n t u p_0 p_1 p_2 => ⟨Ty.lett p_0 ((p_1).choose) ((p_2).choose), lett p_0 ((p_1).choose) ((p_2).choose) ((p_1).choose_spec) ((p_2).choose_spec)⟩) (fun g n f a r t u p_0 p_1 p_2 p_3 p_4 p_5 => ⟨Ty.rek p_0 p_1 p_2 ((p_3).choose) p_4 ((p_5).choose), rek p_0 p_1 p_2 ((p_3).choose) p_4 ((p_5).choose) ((p_3).choose_spec) ((p_5).choose_spec)⟩) (fun g n t p_0 p_1 p_2 p_3 => ⟨Ty.ite p_0 ((p_1).choose) ((p_2).choose) ((p_3).choose), ite p_0 ((p_1).choose) ((p_2).choose) ((p_3).choose) ((p_1).choose_spec) ((p_2).choose_spec) ((p_3).choose_spec)⟩) (fun g n r a t p_0 p_1 p_2 p_3 => ⟨Ty.fn p_0 p_1 ((p_2).choose) p_3, fn p_0 p_1 ((p_2).choose) p_3 ((p_2).choose_spec)⟩) (fun g n t u ks us p_0 p_1 p_2 p_3 p_4 p_5 => ⟨Ty.han ks us p_0 ((p_1).choose) ((p_2).choose) p_3 (fun q a_0 a_1 => (p_4 q a_0 a_1).choose) p_5, han ks us p_0 ((p_1).choose) ((p_2).choose) p_3 (fun q a_0 a_1 => (p_4 q a_0 a_1).choose) p_5 ((p_1).choose_spec) ((p_2).choose_spec) (fun q a_0 a_1 => (p_4 q a_0 a_1).choose_spec)⟩) (fun g n p_0 p_1 p_2 => ⟨Ty.two p_0 ((p_1).choose) ((p_2).choose), two p_0 ((p_1).choose) ((p_2).choose) ((p_1).choose_spec) ((p_2).choose_spec)⟩) (fun g n f a r t p_0 p_1 p_2 p_3 p_4 => ⟨Ty.cal p_0 ((p_1).choose) p_2 ((p_3).choose) p_4, cal p_0 ((p_1).choose) p_2 ((p_3).choose) p_4 ((p_1).choose_spec) ((p_3).choose_spec)⟩) (fun g n t p_0 p_1 p_2 => ⟨Ty.per p_0 ((p_1).choose) p_2, per p_0 ((p_1).choose) p_2 ((p_1).choose_spec)⟩)) (fun _ m => m)
theorem Ty.cs {A : Nat → Nat → Int32} {P : Facts} {tk gv : Nat → Nat} {motive : ∀ (i_0 : (Nat → Int)) (i_1 : Nat) (i_2 : Nat), Ty A P tk gv i_0 i_1 i_2 → Prop} (num : ∀ {g : Nat → Int} {n : Nat} (p_0 : (A 5 n).toInt = 0), motive g n 0 (Ty.num p_0)) (tru : ∀ {g : Nat → Int} {n : Nat} (p_0 : (A 5 n).toInt = 1), motive g n 1 (Ty.tru p_0)) (uni : ∀ {g : Nat → Int} {n : Nat} (p_0 : (A 5 n).toInt = 2), motive g n 2 (Ty.uni p_0)) (nam : ∀ {g : Nat → Int} {n t : Nat} (p_0 : (A 5 n).toInt = 3) (p_1 : g (A 6 n).toInt.toNat = t), motive g n t (Ty.nam p_0 p_1)) (lett : ∀ {g : Nat → Int} {n t u : Nat} (p_0 : (A 5 n).toInt = 4) (p_1 : Ty A P tk gv g (A 9 n).toInt.toNat t) (p_2 : Ty A P tk gv (env g (A 6 n).toInt.toNat t) (A 10 n).toInt.toNat u), motive g n u (Ty.lett p_0 p_1 p_2)) (rek : ∀ {g : Nat → Int} {n f a r t u : Nat} (p_0 : (A 5 n).toInt = 5) (p_1 : (A 8 n).toInt = f) (p_2 : P.fn f a r) (p_3 : Ty A P tk gv (env (env g (A 6 n).toInt.toNat f) (A 7 n).toInt.toNat a) (A 9 n).toInt.toNat t) (p_4 : P.fit t r) (p_5 : Ty A P tk gv (env g (A 6 n).toInt.toNat f) (A 10 n).toInt.toNat u), motive g n u (Ty.rek p_0 p_1 p_2 p_3 p_4 p_5)) (ite : ∀ {g : Nat → Int} {n t : Nat} (p_0 : (A 5 n).toInt = 6) (p_1 : Ty A P tk gv g (A 9 n).toInt.toNat 1) (p_2 : Ty A P tk gv g (A 10 n).toInt.toNat t) (p_3 : Ty A P tk gv g (A 11 n).toInt.toNat t), motive g n t (Ty.ite p_0 p_1 p_2 p_3)) (fn : ∀ {g : Nat → Int} {n r a t : Nat} (p_0 : (A 5 n).toInt = 7) (p_1 : (A 7 n).toInt = a) (p_2 : Ty A P tk gv (env g (A 6 n).toInt.toNat a) (A 9 n).toInt.toNat t) (p_3 : P.fn r a t), motive g n r (Ty.fn p_0 p_1 p_2 p_3)) (han : ∀ {g : Nat → Int} {n t u : Nat} (ks us : Nat → Nat) (p_0 : (A 5 n).toInt = 8) (p_1 : Ty A P tk gv g (A 9 n).toInt.toNat t) (p_2 : Ty A P tk gv (env g (A 6 n).toInt.toNat t) (A 10 n).toInt.toNat u) (p_3 : (∀ q, (A 14 n).toInt.toNat ≤ q → q < (A 14 n).toInt.toNat + (A 15 n).toInt.toNat → P.fn (ks q) (gv (A 16 q).toInt.toNat) u)) (p_4 : (∀ q, (A 14 n).toInt.toNat ≤ q → q < (A 14 n).toInt.toNat + (A 15 n).toInt.toNat → Ty A P tk gv (env (env g (A 17 q).toInt.toNat (tk (A 16 q).toInt.toNat)) (A 18 q).toInt.toNat (ks q)) (A 19 q).toInt.toNat (us q))) (p_5 : (∀ q, (A 14 n).toInt.toNat ≤ q → q < (A 14 n).toInt.toNat + (A 15 n).toInt.toNat → P.fit (us q) u)), motive g n u (Ty.han ks us p_0 p_1 p_2 p_3 p_4 p_5)) (two : ∀ {g : Nat → Int} {n : Nat} (p_0 : (A 5 n).toInt = 9) (p_1 : Ty A P tk gv g (A 9 n).toInt.toNat 0) (p_2 : Ty A P tk gv g (A 10 n).toInt.toNat 0), motive g n (if (A 6 n).toInt < 3 then 0 else 1) (Ty.two p_0 p_1 p_2)) (cal : ∀ {g : Nat → Int} {n f a r t : Nat} (p_0 : (A 5 n).toInt = 10) (p_1 : Ty A P tk gv g (A 9 n).toInt.toNat f) (p_2 : P.fn f a r) (p_3 : Ty A P tk gv g (A 10 n).toInt.toNat t) (p_4 : P.fit t a), motive g n r (Ty.cal p_0 p_1 p_2 p_3 p_4)) (per : ∀ {g : Nat → Int} {n t : Nat} (p_0 : (A 5 n).toInt = 11) (p_1 : Ty A P tk gv g (A 9 n).toInt.toNat t) (p_2 : P.fit t (tk (A 6 n).toInt.toNat)), motive g n (gv (A 6 n).toInt.toNat) (Ty.per p_0 p_1 p_2)) {i_0 : (Nat → Int)} {i_1 : Nat} {i_2 : Nat} (h : Ty A P tk gv i_0 i_1 i_2) : motive i_0 i_1 i_2 h := Ty.ind (motive := motive) (fun p_0 => num p_0) (fun p_0 => tru p_0) (fun p_0 => uni p_0) (fun p_0 p_1 => nam p_0 p_1) (fun p_0 p_1 p_2 _ _ => lett p_0 p_1 p_2) (fun p_0 p_1 p_2 p_3 p_4 p_5 _ _ => rek p_0 p_1 p_2 p_3 p_4 p_5) (fun p_0 p_1 p_2 p_3 _ _ _ => ite p_0 p_1 p_2 p_3) (fun p_0 p_1 p_2 p_3 _ => fn p_0 p_1 p_2 p_3) (fun ks us p_0 p_1 p_2 p_3 p_4 p_5 _ _ _ => han ks us p_0 p_1 p_2 p_3 p_4 p_5) (fun p_0 p_1 p_2 _ _ => two p_0 p_1 p_2) (fun p_0 p_1 p_2 p_3 p_4 _ _ => cal p_0 p_1 p_2 p_3 p_4) (fun p_0 p_1 p_2 _ => per p_0 p_1 p_2) h
theorem Ty.mono {A : Nat → Nat → Int32} {P Q : Facts} (hPQ : P.le Q) {tk gv : Nat → Nat} {g : Nat → Int} {n t : Nat} (h : Ty A P tk gv g n t) : Ty A Q tk gv g n t := by
  induction h using Ty.ind with
  | num h => exact .num h
  | tru h => exact .tru h
  | uni h => exact .uni h
  | nam h g => exact .nam h g
  | lett h _ _ i1 i2 => exact .lett h i1 i2
  | rek h h8 hf _ hr _ i1 i2 => exact .rek h h8 (hPQ.1 _ _ _ hf) i1 (hPQ.2 _ _ hr) i2
  | ite h _ _ _ i1 i2 i3 => exact .ite h i1 i2 i3
  | fn h h7 _ hf i1 => exact .fn h h7 i1 (hPQ.1 _ _ _ hf)
  | han ks us h _ _ hk _ hu i1 i2 i3 => exact .han ks us h i1 i2 (fun q a b => hPQ.1 _ _ _ (hk q a b)) i3 (fun q a b => hPQ.2 _ _ (hu q a b))
  | two h _ _ i1 i2 => exact .two h i1 i2
  | cal h _ hf _ ht i1 i2 => exact .cal h i1 (hPQ.1 _ _ _ hf) i2 (hPQ.2 _ _ ht)
  | per h _ ht i1 => exact .per h i1 (hPQ.2 _ _ ht)
/-- the facts of a table -/
def facts (σ : mSt) (T : Nat) : Facts := (fun r a b => 3 ≤ r ∧ r < T ∧ Ta σ r = a ∧ Tr σ r = b, fun t u => t < T ∧ u < T ∧ Fit σ t u)
theorem facts_le {σ σ' : mSt} {T T' : Nat} (h : TFr T σ σ') (hT : T ≤ T') : (facts σ T).le (facts σ' T') := by
  refine ⟨fun r a b ⟨h1, h2, h3, h4⟩ => ⟨h1, by omega, ?_, ?_⟩, fun t u ⟨h1, h2, h3⟩ => ⟨by omega, by omega, ?_⟩⟩
  · unfold Ta at *; rw [h.t20 r h2]; exact h3
  · unfold Tr at *; rw [h.t21 r h2]; exact h4
  · unfold Fit at *; rw [h.t23 t u h1 h2]; exact h3
end
