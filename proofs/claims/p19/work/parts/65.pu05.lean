-- pure rows: AB AC AD AE AF AG
section
theorem step_perform {A : Nat → Nat → Int32} {tk gv : Nat → Nat} {N C R root c T : Nat} {σ : mSt} (h : SI A tk gv N C R root σ (c + 1) T) (hk : (A 5 (en σ c)).toInt = 11) (hf : σ.1 34 = 0) {n : Nat} (hn : 12 ≤ n) : S_Mo_checkStep n σ ∧ StepOk A tk gv N root σ (c + 1) T (F_Mo_checkStep n σ) := by
  have st := h.start
  have hci := h.ci
  have arr := hci.arr
  have hT3 := hci.tok.lo
  have hT5 := hci.tok.hi
  have nd := h.ok.nd _ st.hn
  have hk5 : σ.2.2.1 5 (en σ c) = 11 := by rw [arr 5 (by omega) (by omega)]; ((try (simp only [vp_in, Int32.toNatClampNeg, Int32.lt_iff_toInt_lt, Int32.le_iff_toInt_le, ← Int32.toInt_inj, Int32.toInt_add, Int32.toInt_sub, Int32.toInt_mul, Int32.reduceToInt, i32_neg1, Nat.reducePow, Int.reducePow, ne_eq, ge_iff_le, gt_iff_lt] at *)) <;> (first | omega | ((simp (disch := omega) only [bm32] at *) <;> omega)))
  have hK : K σ (en σ c) = 11 := by unfold K; rw [hk5]; rfl
  simp only [S_Mo_checkStep, F_Mo_checkStep, st.t, st.nn, mbind_eq]
  generalize mo_ai σ 27 c (σ.2.2.1 27 c + 1) = σ1 at st ⊢
  have md := st.md
  have e5 : σ1.2.2.1 5 (en σ c) = 11 := by rw [st.a1 5 (by decide)]; exact hk5
  have q9 := partN (N := N) nd.pa (nd.ha (by omega))
  rw [arr 9 (by omega) (by omega)] at q9
  have hs := hci.st c (by omega)
  have pp : parts A (en σ c) = [(A 9 (en σ c)).toInt.toNat] := by
    unfold parts; rw [if_neg (by omega), if_pos (by omega)]
  rw [pp] at hs
  simp only [List.length_cons, List.length_nil] at hs
  have k4 : ¬ (11 : Int32) = 4 := by decide
  have k5 : ¬ (11 : Int32) = 5 := by decide
  have k6 : ¬ (11 : Int32) = 6 := by decide
  have k7 : ¬ (11 : Int32) = 7 := by decide
  have k8 : ¬ (11 : Int32) = 8 := by decide
  have k9 : ¬ (11 : Int32) = 9 := by decide
  have k10 : ¬ (11 : Int32) = 10 := by decide
  simp only [e5, if_neg k4, if_neg k5, if_neg k6, if_neg k7, if_neg k8, if_neg k9, if_neg k10, if_true]
  have v := st.vt
  have vn := st.vn
  have hnn := st.nn
  have a9 : σ1.2.2.1 9 (en σ c) = A 9 (en σ c) := by rw [st.a1 9 (by decide), arr 9 (by omega) (by omega)]
  have a6 : σ1.2.2.1 6 (en σ c) = A 6 (en σ c) := by rw [st.a1 6 (by decide), arr 6 (by omega) (by omega)]
  simp only [S_Mo_checkPerform, F_Mo_checkPerform, hnn, mbind_eq]
  by_cases s0 : σ.2.2.1 27 c = 0
  · simp only [if_pos s0]
    have es0 : es σ c = 0 := by unfold es; rw [s0]; rfl
    have r := Mid.into (tk := tk) (gv := gv) h.tab hci md hn (x := σ1.2.2.1 9 (en σ c)) (m := (A 9 (en σ c)).toInt.toNat) (by rw [a9]; exact q9) (fun _ => ⟨by rw [pp, es0]; rfl, by rw [es0]; exact .per1 hk, Nat.le_refl _⟩)
    exact ⟨⟨v, v, v, v, vn, ⟨vn, r.1, trivial⟩, trivial⟩, r.2⟩
  simp only [if_neg s0]
  obtain hw | ⟨g, m, t, w, ty, ft, ht⟩ := hci.top c rfl
  · exact absurd hw (by unfold es; intro hh; apply s0; ((try (simp only [vp_in, Int32.toNatClampNeg, Int32.lt_iff_toInt_lt, Int32.le_iff_toInt_le, ← Int32.toInt_inj, Int32.toInt_add, Int32.toInt_sub, Int32.toInt_mul, Int32.reduceToInt, i32_neg1, Nat.reducePow, Int.reducePow, ne_eq, ge_iff_le, gt_iff_lt] at *)) <;> (first | omega | ((simp (disch := omega) only [bm32] at *) <;> omega))))
  have es1 : es σ c = 1 := by unfold es; ((try (simp only [vp_in, Int32.toNatClampNeg, Int32.lt_iff_toInt_lt, Int32.le_iff_toInt_le, ← Int32.toInt_inj, Int32.toInt_add, Int32.toInt_sub, Int32.toInt_mul, Int32.reduceToInt, i32_neg1, Nat.reducePow, Int.reducePow, ne_eq, ge_iff_le, gt_iff_lt] at *)) <;> (first | omega | ((simp (disch := omega) only [bm32] at *) <;> omega)))
  rw [es1] at w
  have wl : g = row σ c ∧ m = (A 9 (en σ c)).toInt.toNat := by
    generalize hS : (1 : Nat) = s at w
    cases w using Wj.cs <;> first | (exact ⟨rfl, rfl⟩) | omega
  obtain ⟨rfl, rfl⟩ := wl
  have pf := nd.pf (by omega)
  rw [arr 6 (by omega) (by omega)] at pf
  have hee : (A 6 (en σ c)).toNatClampNeg = (A 6 (en σ c)).toInt.toNat := rfl
  have ve : vp_in (A 6 (en σ c)) 8 := by ((try (simp only [vp_in, Int32.toNatClampNeg, Int32.lt_iff_toInt_lt, Int32.le_iff_toInt_le, ← Int32.toInt_inj, Int32.toInt_add, Int32.toInt_sub, Int32.toInt_mul, Int32.reduceToInt, i32_neg1, Nat.reducePow, Int.reducePow, ne_eq, ge_iff_le, gt_iff_lt] at *)) <;> (first | omega | ((simp (disch := omega) only [bm32] at *) <;> omega)))
  obtain ⟨ef1, ef2, ef3, ef4⟩ := h.ef (A 6 (en σ c)).toInt.toNat (by omega)
  have e32 : σ1.1 32 = σ.1 32 := by rw [st.f1]
  have e24 : σ1.2.2.1 24 = σ.2.2.1 24 := st.a1 24 (by decide)
  have e23 : σ1.2.2.1 23 = σ.2.2.1 23 := st.a1 23 (by decide)
  have ix := ix520 (x := σ.1 32) (y := σ.2.2.1 24 (A 6 (en σ c)).toInt.toNat) (by omega) (by omega)
  rw [a6, hee, e24, e23, e32, ix.1, ef1, ft]
  simp only [Int.toNat_natCast]
  have fin : ∀ σ2 : mSt, Mid A σ σ2 c T T → (σ2.1 34 = 0 → Fit σ t (tk (A 6 (en σ c)).toInt.toNat)) → σ2.2.2.1 25 = σ.2.2.1 25 → σ2.2.2.1 6 (en σ c) = A 6 (en σ c) → S_Mo_checkPerform_j57 n σ2 (σ.2.2.1 26 c) ∧ StepOk A tk gv N root σ (c + 1) T (F_Mo_checkPerform_j57 n σ2 (σ.2.2.1 26 c)) := by
    intro σ2 m2 hg h25 h6
    simp only [S_Mo_checkPerform_j57, F_Mo_checkPerform_j57, hnn, mbind_eq, h25, h6, hee]
    have r := Mid.ends (tk := tk) (gv := gv) (r := σ2.1 33 ||| 1 <<< (A 6 (en σ c) &&& 31)) h.tab hci m2 (x := σ.2.2.1 25 (A 6 (en σ c)).toInt.toNat) (fun hz => ⟨gv (A 6 (en σ c)).toInt.toNat, ef3, ef4, (Ty.per hk ty ⟨ht, ef2, hg hz⟩).mono (m2.fr.facts (Nat.le_refl _)), Nat.le_add_right _ _⟩)
    exact ⟨⟨vn, ve, vn, r.1, trivial⟩, r.2⟩
  by_cases z : σ.2.2.1 23 (520 * t + tk (A 6 (en σ c)).toInt.toNat) = 0
  · simp only [if_pos z]
    obtain ⟨w1, w2⟩ := md.wrong (x := 6) (y := σ1.2.2.1 9 (en σ c)) (by decide)
    have ww := wrong_ok (σ := σ1) (x := 6) (y := σ1.2.2.1 9 (en σ c)) (by decide)
    have r := fin _ w1 (fun hz => absurd hz w2) (by rw [ww.2.2.2]; exact st.a1 25 (by decide)) (by rw [ww.2.2.2]; exact a6)
    exact ⟨⟨v, v, v, v, vn, ⟨vn, ve, ix.2, vn, ww.1, r.1⟩, trivial⟩, r.2⟩
  · simp only [if_neg z]
    have r := fin σ1 md (fun _ => z) (st.a1 25 (by decide)) a6
    exact ⟨⟨v, v, v, v, vn, ⟨vn, ve, ix.2, r.1⟩, trivial⟩, r.2⟩
theorem step_atom {A : Nat → Nat → Int32} {tk gv : Nat → Nat} {N C R root c T : Nat} {σ : mSt} (h : SI A tk gv N C R root σ (c + 1) T) (hk : (A 5 (en σ c)).toInt ≤ 3) (hf : σ.1 34 = 0) {n : Nat} (hn : 12 ≤ n) : S_Mo_checkStep n σ ∧ StepOk A tk gv N root σ (c + 1) T (F_Mo_checkStep n σ) := by
  have st := h.start
  have hci := h.ci
  have arr := hci.arr
  have hT3 := hci.tok.lo
  have c39 := hci.c39 h.tab
  have c31 := hci.c31
  have nd := h.ok.nd _ st.hn
  have ndk := nd.k
  have hK : K σ (en σ c) = (A 5 (en σ c)).toInt := by unfold K; rw [arr 5 (by omega) (by omega)]
  simp only [S_Mo_checkStep, F_Mo_checkStep, st.t, st.nn, mbind_eq]
  generalize mo_ai σ 27 c (σ.2.2.1 27 c + 1) = σ1 at st ⊢
  have md := st.md
  have e5 : σ1.2.2.1 5 (en σ c) = A 5 (en σ c) := by rw [st.a1 5 (by decide), arr 5 (by omega) (by omega)]
  have k4 : ¬ A 5 (en σ c) = 4 := by ((try (simp only [vp_in, Int32.toNatClampNeg, Int32.lt_iff_toInt_lt, Int32.le_iff_toInt_le, ← Int32.toInt_inj, Int32.toInt_add, Int32.toInt_sub, Int32.toInt_mul, Int32.reduceToInt, i32_neg1, Nat.reducePow, Int.reducePow, ne_eq, ge_iff_le, gt_iff_lt] at *)) <;> (first | omega | ((simp (disch := omega) only [bm32] at *) <;> omega)))
  have k5 : ¬ A 5 (en σ c) = 5 := by ((try (simp only [vp_in, Int32.toNatClampNeg, Int32.lt_iff_toInt_lt, Int32.le_iff_toInt_le, ← Int32.toInt_inj, Int32.toInt_add, Int32.toInt_sub, Int32.toInt_mul, Int32.reduceToInt, i32_neg1, Nat.reducePow, Int.reducePow, ne_eq, ge_iff_le, gt_iff_lt] at *)) <;> (first | omega | ((simp (disch := omega) only [bm32] at *) <;> omega)))
  have k6 : ¬ A 5 (en σ c) = 6 := by ((try (simp only [vp_in, Int32.toNatClampNeg, Int32.lt_iff_toInt_lt, Int32.le_iff_toInt_le, ← Int32.toInt_inj, Int32.toInt_add, Int32.toInt_sub, Int32.toInt_mul, Int32.reduceToInt, i32_neg1, Nat.reducePow, Int.reducePow, ne_eq, ge_iff_le, gt_iff_lt] at *)) <;> (first | omega | ((simp (disch := omega) only [bm32] at *) <;> omega)))
  have k7 : ¬ A 5 (en σ c) = 7 := by ((try (simp only [vp_in, Int32.toNatClampNeg, Int32.lt_iff_toInt_lt, Int32.le_iff_toInt_le, ← Int32.toInt_inj, Int32.toInt_add, Int32.toInt_sub, Int32.toInt_mul, Int32.reduceToInt, i32_neg1, Nat.reducePow, Int.reducePow, ne_eq, ge_iff_le, gt_iff_lt] at *)) <;> (first | omega | ((simp (disch := omega) only [bm32] at *) <;> omega)))
  have k8 : ¬ A 5 (en σ c) = 8 := by ((try (simp only [vp_in, Int32.toNatClampNeg, Int32.lt_iff_toInt_lt, Int32.le_iff_toInt_le, ← Int32.toInt_inj, Int32.toInt_add, Int32.toInt_sub, Int32.toInt_mul, Int32.reduceToInt, i32_neg1, Nat.reducePow, Int.reducePow, ne_eq, ge_iff_le, gt_iff_lt] at *)) <;> (first | omega | ((simp (disch := omega) only [bm32] at *) <;> omega)))
  have k9 : ¬ A 5 (en σ c) = 9 := by ((try (simp only [vp_in, Int32.toNatClampNeg, Int32.lt_iff_toInt_lt, Int32.le_iff_toInt_le, ← Int32.toInt_inj, Int32.toInt_add, Int32.toInt_sub, Int32.toInt_mul, Int32.reduceToInt, i32_neg1, Nat.reducePow, Int.reducePow, ne_eq, ge_iff_le, gt_iff_lt] at *)) <;> (first | omega | ((simp (disch := omega) only [bm32] at *) <;> omega)))
  have k10 : ¬ A 5 (en σ c) = 10 := by ((try (simp only [vp_in, Int32.toNatClampNeg, Int32.lt_iff_toInt_lt, Int32.le_iff_toInt_le, ← Int32.toInt_inj, Int32.toInt_add, Int32.toInt_sub, Int32.toInt_mul, Int32.reduceToInt, i32_neg1, Nat.reducePow, Int.reducePow, ne_eq, ge_iff_le, gt_iff_lt] at *)) <;> (first | omega | ((simp (disch := omega) only [bm32] at *) <;> omega)))
  have k11 : ¬ A 5 (en σ c) = 11 := by ((try (simp only [vp_in, Int32.toNatClampNeg, Int32.lt_iff_toInt_lt, Int32.le_iff_toInt_le, ← Int32.toInt_inj, Int32.toInt_add, Int32.toInt_sub, Int32.toInt_mul, Int32.reduceToInt, i32_neg1, Nat.reducePow, Int.reducePow, ne_eq, ge_iff_le, gt_iff_lt] at *)) <;> (first | omega | ((simp (disch := omega) only [bm32] at *) <;> omega)))
  simp only [e5, if_neg k4, if_neg k5, if_neg k6, if_neg k7, if_neg k8, if_neg k9, if_neg k10, if_neg k11]
  have v := st.vt
  have vn := st.vn
  have hnn := st.nn
  simp only [S_Mo_checkAtom, F_Mo_checkAtom, hnn, mbind_eq, e5]
  have fin : ∀ (x : Int32) (t : Nat), x.toInt = t → t < T → Ty A (facts σ T) tk gv (row σ c) (en σ c) t → S_Mo_ends σ1 x 0 ∧ StepOk A tk gv N root σ (c + 1) T (F_Mo_ends σ1 x 0) := fun x t h1 h2 h3 =>
    Mid.ends (tk := tk) (gv := gv) h.tab hci md (fun _ => ⟨t, h1, h2, h3.mono (md.fr.facts (Nat.le_refl _)), Nat.le_add_right _ _⟩)
  by_cases z3 : A 5 (en σ c) = 3
  · simp only [if_pos z3]
    have nm := nd.nm (by rw [hK, z3]; decide)
    rw [arr 6 (by omega) (by omega)] at nm
    have a6 : σ1.2.2.1 6 (en σ c) = A 6 (en σ c) := by rw [st.a1 6 (by decide), arr 6 (by omega) (by omega)]
    have e30 : σ1.2.2.1 30 = σ.2.2.1 30 := st.a1 30 (by decide)
    have hi : (10 * (σ.1 31 - 1) + A 6 (en σ c)).toNatClampNeg = 10 * c + (A 6 (en σ c)).toInt.toNat := by ((try (simp only [vp_in, Int32.toNatClampNeg, Int32.lt_iff_toInt_lt, Int32.le_iff_toInt_le, ← Int32.toInt_inj, Int32.toInt_add, Int32.toInt_sub, Int32.toInt_mul, Int32.reduceToInt, i32_neg1, Nat.reducePow, Int.reducePow, ne_eq, ge_iff_le, gt_iff_lt] at *)) <;> (first | omega | ((simp (disch := omega) only [bm32] at *) <;> omega)))
    have hv : vp_in (10 * (σ.1 31 - 1) + A 6 (en σ c)) 450 := by ((try (simp only [vp_in, Int32.toNatClampNeg, Int32.lt_iff_toInt_lt, Int32.le_iff_toInt_le, ← Int32.toInt_inj, Int32.toInt_add, Int32.toInt_sub, Int32.toInt_mul, Int32.reduceToInt, i32_neg1, Nat.reducePow, Int.reducePow, ne_eq, ge_iff_le, gt_iff_lt] at *)) <;> (first | omega | ((simp (disch := omega) only [bm32] at *) <;> omega)))
    rw [a6, hi, e30]
    have rv := hci.rows c (by omega) (A 6 (en σ c)).toInt.toNat (by omega)
    by_cases z : σ.2.2.1 30 (10 * c + (A 6 (en σ c)).toInt.toNat) = -1
    · simp only [if_pos z]
      obtain ⟨w1, w2⟩ := md.wrong (x := 5) (y := σ.2.2.1 26 c) (by decide)
      have ww := wrong_ok (σ := σ1) (x := 5) (y := σ.2.2.1 26 c) (by decide)
      have r := Mid.ends (tk := tk) (gv := gv) (r := 0) h.tab hci w1 (x := σ.2.2.1 30 (10 * c + (A 6 (en σ c)).toInt.toNat)) (fun hz => absurd hz w2)
      exact ⟨⟨v, v, v, v, vn, ⟨vn, vn, hv, ww.1, r.1, trivial⟩, trivial⟩, r.2⟩
    · simp only [if_neg z]
      have r := fin (σ.2.2.1 30 (10 * c + (A 6 (en σ c)).toInt.toNat)) (σ.2.2.1 30 (10 * c + (A 6 (en σ c)).toInt.toNat)).toInt.toNat (by ((try (simp only [vp_in, Int32.toNatClampNeg, Int32.lt_iff_toInt_lt, Int32.le_iff_toInt_le, ← Int32.toInt_inj, Int32.toInt_add, Int32.toInt_sub, Int32.toInt_mul, Int32.reduceToInt, i32_neg1, Nat.reducePow, Int.reducePow, ne_eq, ge_iff_le, gt_iff_lt] at *)) <;> (first | omega | ((simp (disch := omega) only [bm32] at *) <;> omega)))) (by omega) (.nam (by rw [z3]; rfl) (by unfold row; rw [if_pos (by omega)]; ((try (simp only [vp_in, Int32.toNatClampNeg, Int32.lt_iff_toInt_lt, Int32.le_iff_toInt_le, ← Int32.toInt_inj, Int32.toInt_add, Int32.toInt_sub, Int32.toInt_mul, Int32.reduceToInt, i32_neg1, Nat.reducePow, Int.reducePow, ne_eq, ge_iff_le, gt_iff_lt] at *)) <;> (first | omega | ((simp (disch := omega) only [bm32] at *) <;> omega)))))
      exact ⟨⟨v, v, v, v, vn, ⟨vn, vn, hv, r.1, trivial⟩, trivial⟩, r.2⟩
  simp only [if_neg z3]
  by_cases z0 : A 5 (en σ c) = 0
  · simp only [if_pos z0]
    have r := fin 0 0 rfl (by omega) (.num (by rw [z0]; rfl))
    exact ⟨⟨v, v, v, v, vn, ⟨vn, vn, r.1, trivial⟩, trivial⟩, r.2⟩
  simp only [if_neg z0]
  by_cases z1 : A 5 (en σ c) = 1
  · simp only [if_pos z1]
    have r := fin 1 1 rfl (by omega) (.tru (by rw [z1]; rfl))
    exact ⟨⟨v, v, v, v, vn, ⟨vn, vn, vn, r.1, trivial⟩, trivial⟩, r.2⟩
  · simp only [if_neg z1]
    have r := fin 2 2 rfl (by omega) (.uni (by ((try (simp only [vp_in, Int32.toNatClampNeg, Int32.lt_iff_toInt_lt, Int32.le_iff_toInt_le, ← Int32.toInt_inj, Int32.toInt_add, Int32.toInt_sub, Int32.toInt_mul, Int32.reduceToInt, i32_neg1, Nat.reducePow, Int.reducePow, ne_eq, ge_iff_le, gt_iff_lt] at *)) <;> (first | omega | ((simp (disch := omega) only [bm32] at *) <;> omega)))))
    exact ⟨⟨v, v, v, v, vn, ⟨vn, vn, vn, r.1, trivial⟩, trivial⟩, r.2⟩
end
section
theorem Mid.typeOf {A : Nat → Nat → Int32} {σ σ2 : mSt} {c T T1 : Nat} {x1 x2 x3 : Int32} {w : Int32 × mSt} (md : Mid A σ σ2 c T T1) (h : TypeOf σ2 T1 x1 x2 x3 w) : ∃ T', Mid A σ w.2 c T T' ∧ T1 ≤ T' ∧ T' ≤ T1 + 1 ∧ w.2.1 34 = σ2.1 34 ∧ (∀ k, k < 20 ∨ 23 < k → w.2.2.2.1 k = σ2.2.2.1 k) ∧ 3 ≤ w.1.toInt ∧ w.1.toInt < T' ∧ (facts w.2 T').fn w.1.toInt.toNat x1.toInt.toNat x2.toInt.toNat := by
  obtain ⟨T', t1, t2, t3, t4, t5, t6, t7, t8, t9⟩ := h
  have hT := md.hT
  refine ⟨T', ⟨md.fr.trans md.hT (CkFr.ofT t4), t1, by omega, ?_, ?_, ?_, ?_, ?_, ?_, ?_⟩, t2, t3, t4.f 34 (by decide) (by decide), t4.a, t5, t6, ⟨by omega, by omega, ?_, ?_⟩⟩
  · rw [t4.f 31 (by decide) (by decide)]; exact md.c31
  · rw [t4.a 26 (by omega)]; exact md.e26
  · rw [t4.a 27 (by omega)]; exact md.e27
  · rw [t4.a 28 (by omega)]; exact md.e28
  · rw [t4.a 30 (by omega)]; exact md.e30
  · rw [t4.a 27 (by omega)]; exact md.s
  · rw [t4.a 28 (by omega)]; exact md.ct
  · unfold Ta; rw [t7]
  · unfold Tr; rw [t8]
theorem Mid.intoWith2 {A : Nat → Nat → Int32} {tk gv : Nat → Nat} {N root c T T' m y z : Nat} {σ σ2 : mSt} {x yy t zz u : Int32} (hA : TabOk A N) (h : CI A tk gv N root σ (c + 1) T) (md : Mid A σ σ2 c T T') {n : Nat} (hn : 12 ≤ n) (hx : x.toInt = m) (hy : yy.toInt = y) (hy10 : y < 10) (hz : zz.toInt = z) (hz10 : z < 10) (ht : -1 ≤ t.toInt ∧ t.toInt < T') (hu : -1 ≤ u.toInt ∧ u.toInt < T')
    (good : σ2.1 34 = 0 → (parts A (en σ c))[es σ c]? = some m ∧ Wj A (facts σ2 T') tk gv T' (row σ c) (en σ c) (es σ c + 1) (ec σ2 c) (env (env (row σ c) y t.toInt) z u.toInt) m ∧ (T' ≤ T ∨ (T' ≤ T + 1 ∧ (A 5 (en σ c)).toInt = 8 ∧ 2 ≤ es σ c))) :
    S_Mo_intoWith n σ2 x yy t ∧ vp_in (10 * ((F_Mo_intoWith n σ2 x yy t).1 31 - 1) + zz) 450 ∧ (∀ k, k < 26 ∨ 30 < k → (F_Mo_intoWith n σ2 x yy t).2.2.1 k = σ2.2.2.1 k) ∧ StepOk A tk gv N root σ (c + 1) T (mo_ai (F_Mo_intoWith n σ2 x yy t) 30 (10 * ((F_Mo_intoWith n σ2 x yy t).1 31 - 1) + zz).toNatClampNeg u) := by
  have hc := h.c39 hA
  obtain ⟨s, ip⟩ := into_ok (c := c + 1) (σ := σ2) (by omega) (by have := md.c31; omega) hn (x := x)
  simp only [S_Mo_intoWith, F_Mo_intoWith, mbind_eq, ai_1]
  generalize F_Mo_into n σ2 x = σi at ip ⊢
  have f31 := ip.f31
  have hi : (10 * (σi.1 31 - 1) + yy).toNatClampNeg = 10 * (c + 1) + y := by ((try (simp only [vp_in, Int32.toNatClampNeg, Int32.lt_iff_toInt_lt, Int32.le_iff_toInt_le, ← Int32.toInt_inj, Int32.toInt_add, Int32.toInt_sub, Int32.toInt_mul, Int32.reduceToInt, i32_neg1, Nat.reducePow, Int.reducePow, ne_eq, ge_iff_le, gt_iff_lt] at *)) <;> (first | omega | ((simp (disch := omega) only [bm32] at *) <;> omega)))
  have hv : vp_in (10 * (σi.1 31 - 1) + yy) 450 := by ((try (simp only [vp_in, Int32.toNatClampNeg, Int32.lt_iff_toInt_lt, Int32.le_iff_toInt_le, ← Int32.toInt_inj, Int32.toInt_add, Int32.toInt_sub, Int32.toInt_mul, Int32.reduceToInt, i32_neg1, Nat.reducePow, Int.reducePow, ne_eq, ge_iff_le, gt_iff_lt] at *)) <;> (first | omega | ((simp (disch := omega) only [bm32] at *) <;> omega)))
  have hi2 : (10 * (σi.1 31 - 1) + zz).toNatClampNeg = 10 * (c + 1) + z := by ((try (simp only [vp_in, Int32.toNatClampNeg, Int32.lt_iff_toInt_lt, Int32.le_iff_toInt_le, ← Int32.toInt_inj, Int32.toInt_add, Int32.toInt_sub, Int32.toInt_mul, Int32.reduceToInt, i32_neg1, Nat.reducePow, Int.reducePow, ne_eq, ge_iff_le, gt_iff_lt] at *)) <;> (first | omega | ((simp (disch := omega) only [bm32] at *) <;> omega)))
  have hv2 : vp_in (10 * (σi.1 31 - 1) + zz) 450 := by ((try (simp only [vp_in, Int32.toNatClampNeg, Int32.lt_iff_toInt_lt, Int32.le_iff_toInt_le, ← Int32.toInt_inj, Int32.toInt_add, Int32.toInt_sub, Int32.toInt_mul, Int32.reduceToInt, i32_neg1, Nat.reducePow, Int.reducePow, ne_eq, ge_iff_le, gt_iff_lt] at *)) <;> (first | omega | ((simp (disch := omega) only [bm32] at *) <;> omega)))
  rw [hi, hi2]
  have rf : RowFr (c + 1) σi (mo_ai (mo_ai σi 30 (10 * (c + 1) + y) t) 30 (10 * (c + 1) + z) u) := (RowFr.ai hy10).trans (RowFr.ai hz10)
  have fr2 : CkFr T' σ2 (mo_ai (mo_ai σi 30 (10 * (c + 1) + y) t) 30 (10 * (c + 1) + z) u) := CkFr.of (by rw [rf.l, ip.l]) (by rw [rf.ll, ip.ll]) (fun k hk => by rw [rf.f, ip.f k (by omega)]) (fun k hk => by funext i; rw [rf.a k i (by omega), ip.a k (by omega)])
  refine ⟨⟨s, hv, trivial⟩, hv2, fun k hk => by funext i; rw [ai_3, if_neg (by omega), ip.a k (by omega)], T', md.tok.congr (by rw [rf.f, ip.f 3 (by decide)]) (fun k _ _ => by funext i; rw [rf.a k i (by omega), ip.a k (by omega)]), md.hT, md.fr.trans md.hT fr2, fun hf => ?_⟩
  rw [rf.f, ip.f 34 (by decide)] at hf
  obtain ⟨g1, g2, g3⟩ := good hf
  have er : row (mo_ai (mo_ai σi 30 (10 * (c + 1) + y) t) 30 (10 * (c + 1) + z) u) (c + 1) = env (env (row σ c) y t.toInt) z u.toInt := by rw [row_env hz10, row_env hy10, row_into ip, mid_row md c]
  have rv := rowv_of.mp (h.rows c (by omega))
  have hT := md.hT
  have r := Mid.go hA h md ip rf hx g1 (rowv_of.mpr (by rw [er]; exact env_v (env_v (fun k hk => by have := rv k hk; omega) ht) hu)) (by rw [er]; exact g2.mono (Nat.le_refl _) (fr2.facts (Nat.le_refl _))) g3
  exact ⟨c + 2, r.1, r.2.1⟩
theorem CI.T462 {A : Nat → Nat → Int32} {tk gv : Nat → Nat} {N root c T : Nat} {σ : mSt} (h : CI A tk gv N root σ c T) : T < 520 := by have := h.po; omega
theorem step_fn {A : Nat → Nat → Int32} {tk gv : Nat → Nat} {N C R root c T : Nat} {σ : mSt} (h : SI A tk gv N C R root σ (c + 1) T) (hk : (A 5 (en σ c)).toInt = 7) (hf : σ.1 34 = 0) {n : Nat} (hn : 1300 ≤ n) : S_Mo_checkStep n σ ∧ StepOk A tk gv N root σ (c + 1) T (F_Mo_checkStep n σ) := by
  have st := h.start
  have hci := h.ci
  have arr := hci.arr
  have hT3 := hci.tok.lo
  have nd := h.ok.nd _ st.hn
  have hk5 : σ.2.2.1 5 (en σ c) = 7 := by rw [arr 5 (by omega) (by omega)]; ((try (simp only [vp_in, Int32.toNatClampNeg, Int32.lt_iff_toInt_lt, Int32.le_iff_toInt_le, ← Int32.toInt_inj, Int32.toInt_add, Int32.toInt_sub, Int32.toInt_mul, Int32.reduceToInt, i32_neg1, Nat.reducePow, Int.reducePow, ne_eq, ge_iff_le, gt_iff_lt] at *)) <;> (first | omega | ((simp (disch := omega) only [bm32] at *) <;> omega)))
  have hK : K σ (en σ c) = 7 := by unfold K; rw [hk5]; rfl
  simp only [S_Mo_checkStep, F_Mo_checkStep, st.t, st.nn, mbind_eq]
  generalize mo_ai σ 27 c (σ.2.2.1 27 c + 1) = σ1 at st ⊢
  have md := st.md
  have e5 : σ1.2.2.1 5 (en σ c) = 7 := by rw [st.a1 5 (by decide)]; exact hk5
  have q9 := partN (N := N) nd.pa (nd.ha (by omega))
  rw [arr 9 (by omega) (by omega)] at q9
  have hs := hci.st c (by omega)
  have pp : parts A (en σ c) = [(A 9 (en σ c)).toInt.toNat] := by
    unfold parts; rw [if_neg (by omega), if_pos (by omega)]
  rw [pp] at hs
  simp only [List.length_cons, List.length_nil] at hs
  have k4 : ¬ (7 : Int32) = 4 := by decide
  have k5 : ¬ (7 : Int32) = 5 := by decide
  have k6 : ¬ (7 : Int32) = 6 := by decide
  simp only [e5, if_neg k4, if_neg k5, if_neg k6, if_true]
  have v := st.vt
  have vn := st.vn
  have a9 : σ1.2.2.1 9 (en σ c) = A 9 (en σ c) := by rw [st.a1 9 (by decide), arr 9 (by omega) (by omega)]
  have a6 : σ1.2.2.1 6 (en σ c) = A 6 (en σ c) := by rw [st.a1 6 (by decide), arr 6 (by omega) (by omega)]
  have a7 : σ1.2.2.1 7 (en σ c) = A 7 (en σ c) := by rw [st.a1 7 (by decide), arr 7 (by omega) (by omega)]
  have nm := nd.nm (by omega)
  have fn := nd.fn (by omega)
  rw [arr 6 (by omega) (by omega)] at nm
  rw [arr 7 (by omega) (by omega)] at fn
  rw [a9, a6, a7]
  by_cases s0 : σ.2.2.1 27 c = 0
  · simp only [if_pos s0]
    have es0 : es σ c = 0 := by unfold es; rw [s0]; rfl
    have r := Mid.intoWith (tk := tk) (gv := gv) h.tab hci md (n := n) (by omega) (x := A 9 (en σ c)) (yy := A 6 (en σ c)) (t := A 7 (en σ c)) (m := (A 9 (en σ c)).toInt.toNat) (y := (A 6 (en σ c)).toInt.toNat) q9 (by omega) (by omega) (by omega) (fun _ => ⟨by rw [pp, es0]; rfl, by
      have e : (A 7 (en σ c)).toInt = ((A 7 (en σ c)).toInt.toNat : Int) := by omega
      rw [es0, e]; exact .fn1 hk e, Nat.le_refl _⟩)
    exact ⟨⟨v, v, v, v, vn, vn, vn, vn, r.1, trivial⟩, r.2⟩
  simp only [if_neg s0]
  obtain hw | ⟨g, m, t, w, ty, ft, ht⟩ := hci.top c rfl
  · exact absurd hw (by unfold es; intro hh; apply s0; ((try (simp only [vp_in, Int32.toNatClampNeg, Int32.lt_iff_toInt_lt, Int32.le_iff_toInt_le, ← Int32.toInt_inj, Int32.toInt_add, Int32.toInt_sub, Int32.toInt_mul, Int32.reduceToInt, i32_neg1, Nat.reducePow, Int.reducePow, ne_eq, ge_iff_le, gt_iff_lt] at *)) <;> (first | omega | ((simp (disch := omega) only [bm32] at *) <;> omega))))
  have es1 : es σ c = 1 := by unfold es; ((try (simp only [vp_in, Int32.toNatClampNeg, Int32.lt_iff_toInt_lt, Int32.le_iff_toInt_le, ← Int32.toInt_inj, Int32.toInt_add, Int32.toInt_sub, Int32.toInt_mul, Int32.reduceToInt, i32_neg1, Nat.reducePow, Int.reducePow, ne_eq, ge_iff_le, gt_iff_lt] at *)) <;> (first | omega | ((simp (disch := omega) only [bm32] at *) <;> omega)))
  rw [es1] at w
  have wl : ∃ a : Nat, (A 7 (en σ c)).toInt = a ∧ g = env (row σ c) (A 6 (en σ c)).toInt.toNat a ∧ m = (A 9 (en σ c)).toInt.toNat := by
    generalize hS : (1 : Nat) = s at w
    cases w using Wj.cs <;> first | (exact ⟨_, by assumption, rfl, rfl⟩) | omega
  obtain ⟨a, ha, rfl, rfl⟩ := wl
  have e32 : σ1.1 32 = σ.1 32 := by rw [st.f1]
  rw [e32]
  have to := typeOf_ok (σ := σ1) (T := T) md.tok hci.T462 (x1 := A 7 (en σ c)) (x2 := σ.1 32) (x3 := σ1.1 33) fn (by omega) (n := n) (by omega)
  generalize F_Mo_typeOf n σ1 (A 7 (en σ c)) (σ.1 32) (σ1.1 33) = u at to ⊢
  obtain ⟨T', m2, b1, b2, b3, b4, b5, b6, b7⟩ := md.typeOf to.2
  have r := Mid.ends (tk := tk) (gv := gv) (r := 0) h.tab hci m2 (x := u.1) (fun _ => ⟨u.1.toInt.toNat, by omega, by omega, by
    have e1 : (A 7 (en σ c)).toInt.toNat = a := by omega
    have e2 : (σ.1 32).toInt.toNat = t := by omega
    rw [e1, e2] at b7
    exact Ty.fn hk ha (ty.mono (m2.fr.facts (by omega))) b7, by
    unfold pot; rw [if_pos hk]; omega⟩)
  exact ⟨⟨v, v, v, v, vn, vn, to.1, r.1, trivial⟩, r.2⟩
end
section
theorem step_rec {A : Nat → Nat → Int32} {tk gv : Nat → Nat} {N C R root c T : Nat} {σ : mSt} (h : SI A tk gv N C R root σ (c + 1) T) (hk : (A 5 (en σ c)).toInt = 5) (hf : σ.1 34 = 0) {n : Nat} (hn : 12 ≤ n) : S_Mo_checkStep n σ ∧ StepOk A tk gv N root σ (c + 1) T (F_Mo_checkStep n σ) := by
  have st := h.start
  have hci := h.ci
  have arr := hci.arr
  have hT3 := hci.tok.lo
  have hT5 := hci.tok.hi
  have nd := h.ok.nd _ st.hn
  have hk5 : σ.2.2.1 5 (en σ c) = 5 := by rw [arr 5 (by omega) (by omega)]; ((try (simp only [vp_in, Int32.toNatClampNeg, Int32.lt_iff_toInt_lt, Int32.le_iff_toInt_le, ← Int32.toInt_inj, Int32.toInt_add, Int32.toInt_sub, Int32.toInt_mul, Int32.reduceToInt, i32_neg1, Nat.reducePow, Int.reducePow, ne_eq, ge_iff_le, gt_iff_lt] at *)) <;> (first | omega | ((simp (disch := omega) only [bm32] at *) <;> omega)))
  have hK : K σ (en σ c) = 5 := by unfold K; rw [hk5]; rfl
  simp only [S_Mo_checkStep, F_Mo_checkStep, st.t, st.nn, mbind_eq]
  generalize mo_ai σ 27 c (σ.2.2.1 27 c + 1) = σ1 at st ⊢
  have md := st.md
  have e5 : σ1.2.2.1 5 (en σ c) = 5 := by rw [st.a1 5 (by decide)]; exact hk5
  have q9 := partN (N := N) nd.pa (nd.ha (by omega))
  have q10 := partN (N := N) nd.pb (nd.hb (by omega))
  rw [arr 9 (by omega) (by omega)] at q9
  rw [arr 10 (by omega) (by omega)] at q10
  have hs := hci.st c (by omega)
  have pp : parts A (en σ c) = [(A 9 (en σ c)).toInt.toNat, (A 10 (en σ c)).toInt.toNat] := parts4 (by omega)
  rw [pp] at hs
  simp only [List.length_cons, List.length_nil] at hs
  have k4 : ¬ (5 : Int32) = 4 := by decide
  simp only [e5, if_neg k4, if_true]
  have v := st.vt
  have vn := st.vn
  have hnn := st.nn
  have a9 : σ1.2.2.1 9 (en σ c) = A 9 (en σ c) := by rw [st.a1 9 (by decide), arr 9 (by omega) (by omega)]
  have a10 : σ1.2.2.1 10 (en σ c) = A 10 (en σ c) := by rw [st.a1 10 (by decide), arr 10 (by omega) (by omega)]
  have a6 : σ1.2.2.1 6 (en σ c) = A 6 (en σ c) := by rw [st.a1 6 (by decide), arr 6 (by omega) (by omega)]
  have a7 : σ1.2.2.1 7 (en σ c) = A 7 (en σ c) := by rw [st.a1 7 (by decide), arr 7 (by omega) (by omega)]
  have a8 : σ1.2.2.1 8 (en σ c) = A 8 (en σ c) := by rw [st.a1 8 (by decide), arr 8 (by omega) (by omega)]
  have nm := nd.nm (by omega)
  have rc := nd.rc (by omega)
  rw [arr 6 (by omega) (by omega)] at nm
  rw [arr 7 (by omega) (by omega), arr 8 (by omega) (by omega)] at rc
  have hfe : (A 8 (en σ c)).toNatClampNeg = (A 8 (en σ c)).toInt.toNat := rfl
  have vf : vp_in (A 8 (en σ c)) 520 := by ((try (simp only [vp_in, Int32.toNatClampNeg, Int32.lt_iff_toInt_lt, Int32.le_iff_toInt_le, ← Int32.toInt_inj, Int32.toInt_add, Int32.toInt_sub, Int32.toInt_mul, Int32.reduceToInt, i32_neg1, Nat.reducePow, Int.reducePow, ne_eq, ge_iff_le, gt_iff_lt] at *)) <;> (first | omega | ((simp (disch := omega) only [bm32] at *) <;> omega)))
  have fb := facts_fn hci.tok (r := (A 8 (en σ c)).toInt.toNat) (by omega) (by omega)
  have hff : (A 8 (en σ c)).toInt = ((A 8 (en σ c)).toInt.toNat : Int) := by omega
  simp only [S_Mo_checkRec, F_Mo_checkRec, hnn, mbind_eq, a8, a9, a6, hfe]
  generalize hfd : (A 8 (en σ c)).toInt.toNat = f at *
  have e20 : σ1.2.2.1 20 = σ.2.2.1 20 := st.a1 20 (by decide)
  have e21 : σ1.2.2.1 21 = σ.2.2.1 21 := st.a1 21 (by decide)
  have e23 : σ1.2.2.1 23 = σ.2.2.1 23 := st.a1 23 (by decide)
  have e32 : σ1.1 32 = σ.1 32 := by rw [st.f1]
  by_cases s0 : σ.2.2.1 27 c = 0
  · simp only [if_pos s0]
    have es0 : es σ c = 0 := by unfold es; rw [s0]; rfl
    have r := Mid.intoWith2 (tk := tk) (gv := gv) h.tab hci md hn (x := A 9 (en σ c)) (yy := A 6 (en σ c)) (t := A 8 (en σ c)) (zz := A 7 (en σ c)) (u := σ.2.2.1 20 f) (m := (A 9 (en σ c)).toInt.toNat) (y := (A 6 (en σ c)).toInt.toNat) (z := (A 7 (en σ c)).toInt.toNat) q9 (by omega) (by omega) (by omega) (by omega) (by omega) (by omega) (fun _ => ⟨by rw [pp, es0]; rfl, by
      rw [es0, hff, fb.2.2.2.1]; exact (Wj.rec1 hk hff fb.1).mono (Nat.le_refl _) (md.fr.facts (Nat.le_refl _)), Or.inl (Nat.le_refl _)⟩)
    obtain ⟨r1, r2, r3, r4⟩ := r
    have g7 : (F_Mo_intoWith n σ1 (A 9 (en σ c)) (A 6 (en σ c)) (A 8 (en σ c))).2.2.1 7 (en σ c) = A 7 (en σ c) := by rw [r3 7 (by omega)]; exact a7
    have g20 : (F_Mo_intoWith n σ1 (A 9 (en σ c)) (A 6 (en σ c)) (A 8 (en σ c))).2.2.1 20 f = σ.2.2.1 20 f := by rw [r3 20 (by omega), e20]
    rw [g7, g20]
    exact ⟨⟨v, v, v, v, vn, ⟨vn, vn, vn, r1, vn, vf, r2, trivial⟩, trivial⟩, r4⟩
  simp only [if_neg s0]
  obtain hw | ⟨g, m, t, w, ty, ft, ht⟩ := hci.top c rfl
  · exact absurd hw (by unfold es; intro hh; apply s0; ((try (simp only [vp_in, Int32.toNatClampNeg, Int32.lt_iff_toInt_lt, Int32.le_iff_toInt_le, ← Int32.toInt_inj, Int32.toInt_add, Int32.toInt_sub, Int32.toInt_mul, Int32.reduceToInt, i32_neg1, Nat.reducePow, Int.reducePow, ne_eq, ge_iff_le, gt_iff_lt] at *)) <;> (first | omega | ((simp (disch := omega) only [bm32] at *) <;> omega))))
  by_cases s1 : σ.2.2.1 27 c = 1
  · simp only [if_pos s1]
    have es1 : es σ c = 1 := by unfold es; rw [s1]; rfl
    rw [es1] at w
    have wl : g = env (env (row σ c) (A 6 (en σ c)).toInt.toNat f) (A 7 (en σ c)).toInt.toNat (Ta σ f) ∧ m = (A 9 (en σ c)).toInt.toNat := by
      generalize hS : (1 : Nat) = s at w
      cases w using Wj.cs with
      | rec1 h1 h2 h3 =>
        obtain ⟨_, _, h3, _⟩ := h3
        rw [hff] at h2
        have : _ = f := (Int.ofNat.inj h2).symm
        subst this
        rw [h3]
        exact ⟨rfl, rfl⟩
      | _ => omega
    obtain ⟨rfl, rfl⟩ := wl
    have ix := ix520 (x := σ.1 32) (y := σ.2.2.1 21 f) (by omega) (by omega)
    have htr : (σ.2.2.1 21 f).toInt.toNat = Tr σ f := rfl
    have htt : (σ.1 32).toInt.toNat = t := by omega
    rw [e21, e23, e32, ix.1, htr, htt]
    have j131 : ∀ σ2 : mSt, Mid A σ σ2 c T T → (σ2.1 34 = 0 → Fit σ t (Tr σ f)) → σ2.2.2.1 10 (en σ c) = A 10 (en σ c) → σ2.2.2.1 6 (en σ c) = A 6 (en σ c) → S_Mo_checkRec_j131 n σ2 (σ.2.2.1 26 c) (A 8 (en σ c)) ∧ StepOk A tk gv N root σ (c + 1) T (F_Mo_checkRec_j131 n σ2 (σ.2.2.1 26 c) (A 8 (en σ c))) := by
      intro σ2 m2 hg h10 h6
      simp only [S_Mo_checkRec_j131, F_Mo_checkRec_j131, hnn, mbind_eq, h10, h6]
      have r := Mid.intoWith (tk := tk) (gv := gv) h.tab hci m2 hn (x := A 10 (en σ c)) (yy := A 6 (en σ c)) (t := A 8 (en σ c)) (m := (A 10 (en σ c)).toInt.toNat) (y := (A 6 (en σ c)).toInt.toNat) q10 (by omega) (by omega) (by omega) (fun hz => ⟨by rw [pp, es1]; rfl, by
        rw [es1, hff]; exact (Wj.rec2 hk hff fb.1 ty ⟨ht, by omega, hg hz⟩).mono (Nat.le_refl _) (m2.fr.facts (Nat.le_refl _)), Nat.le_refl _⟩)
      exact ⟨⟨vn, vn, r.1, trivial⟩, r.2⟩
    have j102 : ∀ σ2 : mSt, Mid A σ σ2 c T T → (σ2.1 34 = 0 → Fit σ t (Tr σ f)) → σ2.2.2.1 10 (en σ c) = A 10 (en σ c) → σ2.2.2.1 6 (en σ c) = A 6 (en σ c) → S_Mo_checkRec_j102 n σ2 (σ.2.2.1 26 c) (A 8 (en σ c)) ∧ StepOk A tk gv N root σ (c + 1) T (F_Mo_checkRec_j102 n σ2 (σ.2.2.1 26 c) (A 8 (en σ c))) := by
      intro σ2 m2 hg h10 h6
      simp only [S_Mo_checkRec_j102, F_Mo_checkRec_j102, hnn, mbind_eq]
      split
      · have r := j131 σ2 m2 hg h10 h6
        exact ⟨⟨vf, r.1⟩, r.2⟩
      · obtain ⟨w1, w2⟩ := m2.wrong (x := 7) (y := σ2.2.2.1 9 (en σ c)) (by decide)
        have ww := wrong_ok (σ := σ2) (x := 7) (y := σ2.2.2.1 9 (en σ c)) (by decide)
        have r := j131 _ w1 (fun hz => absurd hz w2) (by rw [ww.2.2.2]; exact h10) (by rw [ww.2.2.2]; exact h6)
        exact ⟨⟨vf, vn, ww.1, r.1⟩, r.2⟩
    by_cases z : σ.2.2.1 23 (520 * t + Tr σ f) = 0
    · simp only [if_pos z]
      obtain ⟨w1, w2⟩ := md.wrong (x := 6) (y := A 9 (en σ c)) (by decide)
      have ww := wrong_ok (σ := σ1) (x := 6) (y := A 9 (en σ c)) (by decide)
      have r := j102 _ w1 (fun hz => absurd hz w2) (by rw [ww.2.2.2]; exact a10) (by rw [ww.2.2.2]; exact a6)
      exact ⟨⟨v, v, v, v, vn, ⟨vn, vf, ix.2, vn, ww.1, r.1⟩, trivial⟩, r.2⟩
    · simp only [if_neg z]
      have r := j102 σ1 md (fun _ => z) a10 a6
      exact ⟨⟨v, v, v, v, vn, ⟨vn, vf, ix.2, r.1⟩, trivial⟩, r.2⟩
  · simp only [if_neg s1]
    have es2 : es σ c = 2 := by unfold es; ((try (simp only [vp_in, Int32.toNatClampNeg, Int32.lt_iff_toInt_lt, Int32.le_iff_toInt_le, ← Int32.toInt_inj, Int32.toInt_add, Int32.toInt_sub, Int32.toInt_mul, Int32.reduceToInt, i32_neg1, Nat.reducePow, Int.reducePow, ne_eq, ge_iff_le, gt_iff_lt] at *)) <;> (first | omega | ((simp (disch := omega) only [bm32] at *) <;> omega)))
    rw [es2] at w
    have wl : ∃ f' a r t1 : Nat, (A 8 (en σ c)).toInt = f' ∧ (facts σ T).fn f' a r ∧ Ty A (facts σ T) tk gv (env (env (row σ c) (A 6 (en σ c)).toInt.toNat f') (A 7 (en σ c)).toInt.toNat a) (A 9 (en σ c)).toInt.toNat t1 ∧ (facts σ T).fit t1 r ∧ g = env (row σ c) (A 6 (en σ c)).toInt.toNat f' ∧ m = (A 10 (en σ c)).toInt.toNat := by
      generalize hS : (2 : Nat) = s at w
      cases w using Wj.cs with
      | rec2 h1 h2 h3 h4 h5 => exact ⟨_, _, _, _, h2, h3, h4, h5, rfl, rfl⟩
      | _ => omega
    obtain ⟨f', a', r', t1, z1, z2, z3, z4, rfl, rfl⟩ := wl
    have r := Mid.ends (tk := tk) (gv := gv) (r := σ1.1 33) h.tab hci md (x := σ1.1 32) (fun _ => ⟨t, by rw [e32]; exact ft, ht, (Ty.rek hk z1 z2 z3 z4 ty).mono (md.fr.facts (Nat.le_refl _)), Nat.le_add_right _ _⟩)
    exact ⟨⟨v, v, v, v, vn, ⟨vn, r.1, trivial⟩, trivial⟩, r.2⟩
end
section
theorem unhandled_5_ok {σ : mSt} {x1 : Int32} {M F : Nat} (v1 : vp_in x1 200) (hM : (σ.2.2.1 15 x1.toNatClampNeg).toInt = M) (hF : (σ.2.2.1 14 x1.toNatClampNeg).toInt = F) (h40 : F + M ≤ 40) :
    ∀ (m n : Nat) (x3 x4 : Int32) (j : Nat), x4.toInt = j → j ≤ M → M - j ≤ m → m < n → S_Mo_unhandled_5 n σ x1 x3 x4 ∧ (F_Mo_unhandled_5 n σ x1 x3 x4).1 = σ := by
  intro m
  induction m with
  | zero =>
    intro n x3 x4 j hj hjM hm hn
    obtain ⟨n, rfl⟩ : ∃ k, n = k + 1 := ⟨n - 1, by omega⟩
    have hc : σ.2.2.1 15 x1.toNatClampNeg ≤ x4 := by rw [Int32.le_iff_toInt_le]; omega
    simp only [S_Mo_unhandled_5, F_Mo_unhandled_5, if_pos hc]
    exact ⟨⟨v1, trivial⟩, trivial⟩
  | succ m ih =>
    intro n x3 x4 j hj hjM hm hn
    obtain ⟨n, rfl⟩ : ∃ k, n = k + 1 := ⟨n - 1, by omega⟩
    by_cases hjm : j = M
    · have hc : σ.2.2.1 15 x1.toNatClampNeg ≤ x4 := by rw [Int32.le_iff_toInt_le]; omega
      simp only [S_Mo_unhandled_5, F_Mo_unhandled_5, if_pos hc]
      exact ⟨⟨v1, trivial⟩, trivial⟩
    have hc : ¬ σ.2.2.1 15 x1.toNatClampNeg ≤ x4 := by rw [Int32.le_iff_toInt_le]; omega
    have hv : vp_in (σ.2.2.1 14 x1.toNatClampNeg + x4) 40 := by
      generalize σ.2.2.1 14 x1.toNatClampNeg = b at hF
      clear hM v1 hc ih
      ((try (simp only [vp_in, Int32.toNatClampNeg, Int32.lt_iff_toInt_lt, Int32.le_iff_toInt_le, ← Int32.toInt_inj, Int32.toInt_add, Int32.toInt_sub, Int32.toInt_mul, Int32.reduceToInt, i32_neg1, Nat.reducePow, Int.reducePow, ne_eq, ge_iff_le, gt_iff_lt] at *)) <;> (first | omega | ((simp (disch := omega) only [bm32] at *) <;> omega)))
    have hj1 : (x4 + 1).toInt = (j + 1 : Nat) := by
      clear hM v1 hc ih hv hF
      ((try (simp only [vp_in, Int32.toNatClampNeg, Int32.lt_iff_toInt_lt, Int32.le_iff_toInt_le, ← Int32.toInt_inj, Int32.toInt_add, Int32.toInt_sub, Int32.toInt_mul, Int32.reduceToInt, i32_neg1, Nat.reducePow, Int.reducePow, ne_eq, ge_iff_le, gt_iff_lt] at *)) <;> (first | omega | ((simp (disch := omega) only [bm32] at *) <;> omega)))
    simp only [S_Mo_unhandled_5, F_Mo_unhandled_5, if_neg hc]
    have r := ih n (x3 &&& (1 <<< (σ.2.2.1 16 (σ.2.2.1 14 x1.toNatClampNeg + x4).toNatClampNeg &&& 31) ^^^ -1)) (x4 + 1) (j + 1) hj1 (by omega) (by omega) (by omega)
    exact ⟨⟨v1, v1, hv, r.1⟩, r.2⟩
theorem beginClause_18_ok {x1 x2 x4 : Int32} {q : Nat} (hq : x4.toInt = q) (h40 : q < 40) :
    ∀ (m n : Nat) (σ : mSt) (x5 : Int32) (j : Nat), x5.toInt = j → j ≤ q → q - j ≤ m → m < n → S_Mo_beginClause_18 n σ x1 x2 x4 x5 ∧ (F_Mo_beginClause_18 n σ x1 x2 x4 x5).2 = (x1, x2, x4) ∧ (F_Mo_beginClause_18 n σ x1 x2 x4 x5).1.2 = σ.2 ∧ (∀ k, k ≠ 34 → k ≠ 35 → (F_Mo_beginClause_18 n σ x1 x2 x4 x5).1.1 k = σ.1 k) ∧ ((F_Mo_beginClause_18 n σ x1 x2 x4 x5).1.1 34 = 0 → σ.1 34 = 0) := by
  have v4 : vp_in x4 40 := by ((try (simp only [vp_in, Int32.toNatClampNeg, Int32.lt_iff_toInt_lt, Int32.le_iff_toInt_le, ← Int32.toInt_inj, Int32.toInt_add, Int32.toInt_sub, Int32.toInt_mul, Int32.reduceToInt, i32_neg1, Nat.reducePow, Int.reducePow, ne_eq, ge_iff_le, gt_iff_lt] at *)) <;> (first | omega | ((simp (disch := omega) only [bm32] at *) <;> omega)))
  intro m
  induction m with
  | zero =>
    intro n σ x5 j hj hjq hm hn
    obtain ⟨n, rfl⟩ : ∃ k, n = k + 1 := ⟨n - 1, by omega⟩
    have hc : x4 ≤ x5 := by rw [Int32.le_iff_toInt_le]; omega
    simp only [S_Mo_beginClause_18, F_Mo_beginClause_18, if_pos hc]
    exact ⟨trivial, trivial, trivial, fun _ _ _ => trivial, id⟩
  | succ m ih =>
    intro n σ x5 j hj hjq hm hn
    obtain ⟨n, rfl⟩ : ∃ k, n = k + 1 := ⟨n - 1, by omega⟩
    by_cases hjm : j = q
    · have hc : x4 ≤ x5 := by rw [Int32.le_iff_toInt_le]; omega
      simp only [S_Mo_beginClause_18, F_Mo_beginClause_18, if_pos hc]
      exact ⟨trivial, trivial, trivial, fun _ _ _ => trivial, id⟩
    have hc : ¬ x4 ≤ x5 := by rw [Int32.le_iff_toInt_le]; omega
    have v5 : vp_in x5 40 := by clear ih v4 hc; ((try (simp only [vp_in, Int32.toNatClampNeg, Int32.lt_iff_toInt_lt, Int32.le_iff_toInt_le, ← Int32.toInt_inj, Int32.toInt_add, Int32.toInt_sub, Int32.toInt_mul, Int32.reduceToInt, i32_neg1, Nat.reducePow, Int.reducePow, ne_eq, ge_iff_le, gt_iff_lt] at *)) <;> (first | omega | ((simp (disch := omega) only [bm32] at *) <;> omega)))
    have hj1 : (x5 + 1).toInt = (j + 1 : Nat) := by clear ih v4 hc v5; ((try (simp only [vp_in, Int32.toNatClampNeg, Int32.lt_iff_toInt_lt, Int32.le_iff_toInt_le, ← Int32.toInt_inj, Int32.toInt_add, Int32.toInt_sub, Int32.toInt_mul, Int32.reduceToInt, i32_neg1, Nat.reducePow, Int.reducePow, ne_eq, ge_iff_le, gt_iff_lt] at *)) <;> (first | omega | ((simp (disch := omega) only [bm32] at *) <;> omega)))
    simp only [S_Mo_beginClause_18, F_Mo_beginClause_18, if_neg hc, mbind_eq]
    by_cases z : σ.2.2.1 16 x5.toNatClampNeg = σ.2.2.1 16 x4.toNatClampNeg
    · simp only [if_pos z]
      have ww := wrong_ok (σ := σ) (x := 8) (y := σ.2.2.1 19 x4.toNatClampNeg) (by decide)
      have r := ih n (F_Mo_wrong σ 8 (σ.2.2.1 19 x4.toNatClampNeg)) (x5 + 1) (j + 1) hj1 (by omega) (by omega) (by omega)
      exact ⟨⟨v5, v4, v4, ww.1, r.1⟩, r.2.1, r.2.2.1.trans ww.2.2.2, fun k h1 h2 => (r.2.2.2.1 k h1 h2).trans (ww.2.2.1 k h1 h2), fun hz => absurd (r.2.2.2.2 hz) ww.2.1⟩
    · simp only [if_neg z]
      have r := ih n σ (x5 + 1) (j + 1) hj1 (by omega) (by omega) (by omega)
      exact ⟨⟨v5, v4, r.1⟩, r.2⟩
end
section
theorem Mid.flt {A : Nat → Nat → Int32} {σ σ2 σ3 : mSt} {c T T' : Nat} (h : Mid A σ σ2 c T T') (w3 : ∀ k, k ≠ 34 → k ≠ 35 → σ3.1 k = σ2.1 k) (w4 : σ3.2 = σ2.2) : Mid A σ σ3 c T T' := by
  refine ⟨h.fr.trans h.hT (CkFr.of (by rw [w4]) (by rw [w4]) (fun k hk => w3 k (by omega) (by omega)) (fun k _ => by rw [w4])), h.tok.congr (w3 3 (by decide) (by decide)) (fun k _ _ => by rw [w4]), h.hT, ?_, ?_, ?_, ?_, ?_, ?_, ?_⟩
  · rw [w3 31 (by decide) (by decide)]; exact h.c31
  · rw [w4]; exact h.e26
  · rw [w4]; exact h.e27
  · rw [w4]; exact h.e28
  · rw [w4]; exact h.e30
  · rw [w4]; exact h.s
  · rw [w4]; exact h.ct
/-- what a handle knows when clause k begins -/
def HK (A : Nat → Nat → Int32) (P : Facts) (tk gv : Nat → Nat) (g : Nat → Int) (n ct k : Nat) : Prop :=
  ∃ t, Ty A P tk gv g (A 9 n).toInt.toNat t ∧ Ty A P tk gv (env g (A 6 n).toInt.toNat t) (A 10 n).toInt.toNat ct ∧ ∃ ks us : Nat → Nat, (∀ q, (A 14 n).toInt.toNat ≤ q → q < (A 14 n).toInt.toNat + k → P.fn (ks q) (gv (A 16 q).toInt.toNat) ct) ∧ (∀ q, (A 14 n).toInt.toNat ≤ q → q < (A 14 n).toInt.toNat + k → Ty A P tk gv (env (env g (A 17 q).toInt.toNat (tk (A 16 q).toInt.toNat)) (A 18 q).toInt.toNat (ks q)) (A 19 q).toInt.toNat (us q)) ∧ (∀ q, (A 14 n).toInt.toNat ≤ q → q < (A 14 n).toInt.toNat + k → P.fit (us q) ct)
theorem HK.mono {A : Nat → Nat → Int32} {P Q : Facts} {tk gv : Nat → Nat} {g : Nat → Int} {n ct k : Nat} (hP : P.le Q) (h : HK A P tk gv g n ct k) : HK A Q tk gv g n ct k := by
  obtain ⟨t, a, b, ks, us, c, d, e⟩ := h
  exact ⟨t, a.mono hP, b.mono hP, ks, us, fun q h1 h2 => hP.1 _ _ _ (c q h1 h2), fun q h1 h2 => (d q h1 h2).mono hP, fun q h1 h2 => hP.2 _ _ (e q h1 h2)⟩
theorem begin_ok {A : Nat → Nat → Int32} {tk gv : Nat → Nat} {N C R root c T k ct : Nat} {σ σ2 : mSt} {x : Int32} (h : SI A tk gv N C R root σ (c + 1) T) (hk : (A 5 (en σ c)).toInt = 8) (md : Mid A σ σ2 c T T) {n : Nat} (hn : 1300 ≤ n) (hx : x.toInt = k) (hkm : k < (A 15 (en σ c)).toInt.toNat) (hes : es σ c = 2 + k) (hct : (σ2.2.2.1 28 c).toInt = ct) (hctT : ct < T) (ha : ∀ k, k < 26 → σ2.2.2.1 k = σ.2.2.1 k) (good : σ2.1 34 = 0 → HK A (facts σ T) tk gv (row σ c) (en σ c) ct k) :
    S_Mo_beginClause n σ2 (σ.1 31 - 1) (σ.2.2.1 26 c) x ∧ StepOk A tk gv N root σ (c + 1) T (F_Mo_beginClause n σ2 (σ.1 31 - 1) (σ.2.2.1 26 c) x) := by
  have st := h.start
  have hci := h.ci
  have arr := hci.arr
  have hT3 := hci.tok.lo
  have nd := h.ok.nd _ st.hn
  have hC := h.ok.hc
  have v := st.vt
  have vn := st.vn
  have hnn := st.nn
  have htt := st.t
  have hK : K σ (en σ c) = 8 := by unfold K; rw [arr 5 (by omega) (by omega)]; exact hk
  have cf := nd.cf hK
  rw [arr 14 (by omega) (by omega), arr 15 (by omega) (by omega)] at cf
  have cm := nd.cm.1
  rw [arr 15 (by omega) (by omega)] at cm
  have a14 : σ2.2.2.1 14 (en σ c) = A 14 (en σ c) := by rw [ha 14 (by omega), arr 14 (by omega) (by omega)]
  simp only [S_Mo_beginClause, F_Mo_beginClause, hnn, mbind_eq, a14]
  generalize hF : (A 14 (en σ c)).toInt.toNat = F at *
  have hFi : (A 14 (en σ c)).toInt = F := by omega
  have hle : F + k ≤ 40 := by omega
  have hq : (A 14 (en σ c) + x).toInt = (F + k : Nat) := by
    clear hF hct v vn hnn htt good cf cm hkm
    generalize A 14 (en σ c) = b at *
    ((try (simp only [vp_in, Int32.toNatClampNeg, Int32.lt_iff_toInt_lt, Int32.le_iff_toInt_le, ← Int32.toInt_inj, Int32.toInt_add, Int32.toInt_sub, Int32.toInt_mul, Int32.reduceToInt, i32_neg1, Nat.reducePow, Int.reducePow, ne_eq, ge_iff_le, gt_iff_lt] at *)) <;> (first | omega | ((simp (disch := omega) only [bm32] at *) <;> omega)))
  have b18 := beginClause_18_ok (x1 := σ.1 31 - 1) (x2 := σ.2.2.1 26 c) hq (by omega) 40 n σ2 (A 14 (en σ c)) F hFi (by omega) (by omega) (by omega)
  generalize F_Mo_beginClause_18 n σ2 (σ.1 31 - 1) (σ.2.2.1 26 c) (A 14 (en σ c) + x) (A 14 (en σ c)) = w3 at b18 ⊢
  obtain ⟨z1, z2, z3, z4, z5⟩ := b18
  obtain ⟨σ3, w1, w2, w4⟩ := w3
  simp only [Prod.mk.injEq] at z2 z3 z4 z5 ⊢
  obtain ⟨rfl, rfl, rfl⟩ := z2
  have m3 : Mid A σ σ3 c T T := md.flt z4 z3
  by_cases flt : σ3.1 34 = 0
  case neg =>
    simp only [if_neg flt]
    exact ⟨⟨vn, vn, z1, trivial⟩, T, m3.tok, Nat.le_refl _, m3.fr, fun hz => absurd hz flt⟩
  simp only [if_pos flt]
  have hqn : (A 14 (en σ c) + x).toNatClampNeg = F + k := by show (A 14 (en σ c) + x).toInt.toNat = F + k; omega
  have vq : vp_in (A 14 (en σ c) + x) 40 := by unfold vp_in; rw [hqn, Int32.lt_iff_toInt_lt, hq]; simp [si_1, si_2, sl_1, sl_2, sl_3, ai_1, ai_2, ai_3, ai_4, al_1, al_2, al_3, al_4]; omega
  have arr3 : ∀ j, 5 ≤ j → j ≤ 19 → σ3.2.2.1 j = A j := fun j h1 h2 => by rw [z3, ha j (by omega)]; exact arr j h1 h2
  rw [hqn, htt, hnn, arr3 16 (by omega) (by omega), arr3 7 (by omega) (by omega)]
  have cl := h.ok.cl (F + k) (by omega)
  have ce := cl.e
  have cx := cl.x
  have ck := cl.k
  have cb := cl.b
  rw [arr 16 (by omega) (by omega)] at ce
  rw [arr 17 (by omega) (by omega)] at cx
  rw [arr 18 (by omega) (by omega)] at ck
  rw [arr 19 (by omega) (by omega)] at cb
  have hee : (A 16 (F + k)).toNatClampNeg = (A 16 (F + k)).toInt.toNat := rfl
  have ve : vp_in (A 16 (F + k)) 8 := by unfold vp_in; rw [hee, Int32.lt_iff_toInt_lt]; have : (0 : Int32).toInt = 0 := rfl; omega
  obtain ⟨ef1, ef2, ef3, ef4⟩ := h.ef (A 16 (F + k)).toInt.toNat (by omega)
  have e25 : σ3.2.2.1 25 = σ.2.2.1 25 := by rw [z3, ha 25 (by omega)]
  have e24 : σ3.2.2.1 24 = σ.2.2.1 24 := by rw [z3, ha 24 (by omega)]
  have e28 : σ3.2.2.1 28 = σ2.2.2.1 28 := by rw [z3]
  rw [hee, e25, e28]
  have to := typeOf_ok (σ := σ3) (T := T) m3.tok hci.T462 (x1 := σ.2.2.1 25 (A 16 (F + k)).toInt.toNat) (x2 := σ2.2.2.1 28 c) (x3 := A 7 (en σ c)) (by omega) (by omega) (n := n) (by omega)
  generalize F_Mo_typeOf n σ3 (σ.2.2.1 25 (A 16 (F + k)).toInt.toNat) (σ2.2.2.1 28 c) (A 7 (en σ c)) = u at to ⊢
  obtain ⟨T', m4, b1, b2, b3, b4, b5, b6, b7⟩ := m3.typeOf to.2
  have g19 : u.2.2.2.1 19 (F + k) = A 19 (F + k) := by rw [b4 19 (by omega), arr3 19 (by omega) (by omega)]
  have g17 : u.2.2.2.1 17 (F + k) = A 17 (F + k) := by rw [b4 17 (by omega), arr3 17 (by omega) (by omega)]
  have g24 : u.2.2.2.1 24 (A 16 (F + k)).toInt.toNat = σ.2.2.1 24 (A 16 (F + k)).toInt.toNat := by rw [b4 24 (by omega), e24]
  have g18 : u.2.2.2.1 18 (F + k) = A 18 (F + k) := by rw [b4 18 (by omega), arr3 18 (by omega) (by omega)]
  rw [g19, g17, g24]
  have ec4 : ec u.2 c = ct := by unfold ec; rw [b4 28 (by omega), e28]; omega
  have r := Mid.intoWith2 (tk := tk) (gv := gv) h.tab hci m4 (n := n) (by omega) (x := A 19 (F + k)) (yy := A 17 (F + k)) (t := σ.2.2.1 24 (A 16 (F + k)).toInt.toNat) (zz := A 18 (F + k)) (u := u.1) (m := (A 19 (F + k)).toInt.toNat) (y := (A 17 (F + k)).toInt.toNat) (z := (A 18 (F + k)).toInt.toNat) (by omega) (by omega) (by omega) (by omega) (by omega) (by omega) (by omega) (fun _ => by
    refine ⟨?_, ?_, Or.inr ⟨b2, hk, by omega⟩⟩
    · unfold parts
      rw [if_neg (by omega), if_neg (by omega), if_neg (by omega), if_pos hk, hes, hF]
      show (_ :: _ :: _)[2 + k]? = _
      rw [show 2 + k = k + 1 + 1 by omega, List.getElem?_cons_succ, List.getElem?_cons_succ, List.getElem?_map, List.getElem?_range hkm]
      rfl
    · obtain ⟨t, y1, y2, ks, us, y3, y4, y5⟩ := (good (z5 flt)).mono (m4.fr.facts (by omega))
      have hgv : (σ.2.2.1 25 (A 16 (F + k)).toInt.toNat).toInt.toNat = gv (A 16 (F + k)).toInt.toNat := by omega
      have hctn : (σ2.2.2.1 28 c).toInt.toNat = ct := by omega
      rw [hgv, hctn] at b7
      rw [hF] at y3 y4 y5
      have hu : u.1.toInt = ((if F + k = F + k then u.1.toInt.toNat else ks (F + k) : Nat) : Int) := by rw [if_pos rfl]; omega
      have w := Wj.han3 (A := A) (P := facts u.2 T') (tk := tk) (gv := gv) (T := T') (g := row σ c) (n := en σ c) (ct := ct) (t := t) (j := k) (fun q => if q = F + k then u.1.toInt.toNat else ks q) us hk hkm y1 y2 (by omega) (by
        rw [hF]
        intro q h1 h2
        by_cases e : q = F + k
        · subst e; simp only [if_true]; exact b7
        · simp only [if_neg e]; exact y3 q h1 (by omega)) (by
        rw [hF]
        intro q h1 h2
        have e : q ≠ F + k := by omega
        simp only [if_neg e]; exact y4 q h1 h2) (by rw [hF]; exact y5)
      rw [hF] at w
      rw [ec4, hes, ef1, hu, show 2 + k + 1 = 3 + k by omega]
      exact w)
  obtain ⟨r1, r2, r3, r4⟩ := r
  have g18' : (F_Mo_intoWith n u.2 (A 19 (F + k)) (A 17 (F + k)) (σ.2.2.1 24 (A 16 (F + k)).toInt.toNat)).2.2.1 18 (F + k) = A 18 (F + k) := by rw [r3 18 (by omega)]; exact g18
  rw [g18']
  exact ⟨⟨vn, vn, z1, vq, ve, v, vn, to.1, vq, vq, ve, r1, vq, r2, trivial⟩, r4⟩
end
section
theorem handle_169 {A : Nat → Nat → Int32} {tk gv : Nat → Nat} {N C R root c T k ct : Nat} {σ σ2 : mSt} {x y : Int32} (h : SI A tk gv N C R root σ (c + 1) T) (hk : (A 5 (en σ c)).toInt = 8) (md : Mid A σ σ2 c T T) {n : Nat} (hn : 1300 ≤ n) (hx : x.toInt = 2 + k) (hkm : k ≤ (A 15 (en σ c)).toInt.toNat) (hes : es σ c = 2 + k) (hct : (σ2.2.2.1 28 c).toInt = ct) (hctT : ct < T) (ha : ∀ k, k < 26 → σ2.2.2.1 k = σ.2.2.1 k) (good : σ2.1 34 = 0 → HK A (facts σ T) tk gv (row σ c) (en σ c) ct k) :
    S_Mo_checkHandle_j169 n σ2 (σ.1 31 - 1) (σ.2.2.1 26 c) x y ∧ StepOk A tk gv N root σ (c + 1) T (F_Mo_checkHandle_j169 n σ2 (σ.1 31 - 1) (σ.2.2.1 26 c) x y) := by
  have st := h.start
  have hci := h.ci
  have arr := hci.arr
  have nd := h.ok.nd _ st.hn
  have hC := h.ok.hc
  have v := st.vt
  have vn := st.vn
  have hnn := st.nn
  have htt := st.t
  have hK : K σ (en σ c) = 8 := by unfold K; rw [arr 5 (by omega) (by omega)]; exact hk
  have cf := nd.cf hK
  rw [arr 14 (by omega) (by omega), arr 15 (by omega) (by omega)] at cf
  have cm := nd.cm.1
  rw [arr 15 (by omega) (by omega)] at cm
  have a14 : σ2.2.2.1 14 (en σ c) = A 14 (en σ c) := by rw [ha 14 (by omega), arr 14 (by omega) (by omega)]
  have a15 : σ2.2.2.1 15 (en σ c) = A 15 (en σ c) := by rw [ha 15 (by omega), arr 15 (by omega) (by omega)]
  have hx2 : (x - 2).toInt = k := by
    clear cf cm hct
    have : k ≤ 40 := by have := nd.cf hK; rw [arr 14 (by omega) (by omega), arr 15 (by omega) (by omega)] at this; omega
    clear hkm
    ((try (simp only [vp_in, Int32.toNatClampNeg, Int32.lt_iff_toInt_lt, Int32.le_iff_toInt_le, ← Int32.toInt_inj, Int32.toInt_add, Int32.toInt_sub, Int32.toInt_mul, Int32.reduceToInt, i32_neg1, Nat.reducePow, Int.reducePow, ne_eq, ge_iff_le, gt_iff_lt] at *)) <;> (first | omega | ((simp (disch := omega) only [bm32] at *) <;> omega)))
  simp only [S_Mo_checkHandle_j169, F_Mo_checkHandle_j169, hnn, htt, mbind_eq, a15]
  by_cases z : A 15 (en σ c) ≤ x - 2
  · have hke : k = (A 15 (en σ c)).toInt.toNat := by rw [Int32.le_iff_toInt_le] at z; omega
    simp only [if_pos z]
    have u := unhandled_5_ok (σ := σ2) (x1 := σ.2.2.1 26 c) (M := (A 15 (en σ c)).toInt.toNat) (F := (A 14 (en σ c)).toInt.toNat) vn (by rw [hnn, a15]; omega) (by rw [hnn, a14]; omega) (by omega) 40 n (σ2.2.2.1 29 c) 0 0 rfl (by omega) (by omega) (by omega)
    simp only [S_Mo_unhandled, F_Mo_unhandled, mbind_eq, u.2]
    have fin : ∀ σ3 : mSt, Mid A σ σ3 c T T → (σ3.1 34 = 0 → σ2.1 34 = 0) → σ3.2 = σ2.2 → S_Mo_checkHandle_j227 n σ3 (σ.1 31 - 1) y ∧ StepOk A tk gv N root σ (c + 1) T (F_Mo_checkHandle_j227 n σ3 (σ.1 31 - 1) y) := by
      intro σ3 m3 hg he
      simp only [S_Mo_checkHandle_j227, F_Mo_checkHandle_j227, htt, mbind_eq, he]
      have r := Mid.ends (tk := tk) (gv := gv) (r := y) h.tab hci m3 (x := σ2.2.2.1 28 c) (fun hz => by
        obtain ⟨t, y1, y2, ks, us, y3, y4, y5⟩ := (good (hg hz)).mono (m3.fr.facts (Nat.le_refl _))
        rw [hke] at y3 y4 y5
        exact ⟨ct, hct, hctT, Ty.han ks us hk y1 y2 y3 y4 y5, Nat.le_add_right _ _⟩)
      exact ⟨⟨v, r.1, trivial⟩, r.2⟩
    split
    · have r := fin σ2 md id rfl
      exact ⟨⟨vn, v, ⟨u.1, trivial⟩, r.1⟩, r.2⟩
    · obtain ⟨w1, w2⟩ := md.wrong (x := 7) (y := σ2.2.2.1 9 (en σ c)) (by decide)
      have ww := wrong_ok (σ := σ2) (x := 7) (y := σ2.2.2.1 9 (en σ c)) (by decide)
      have r := fin _ w1 (fun hz => absurd hz w2) ww.2.2.2
      exact ⟨⟨vn, v, ⟨u.1, trivial⟩, vn, ww.1, r.1⟩, r.2⟩
  · simp only [if_neg z]
    have r := begin_ok h hk md hn hx2 (by rw [Int32.le_iff_toInt_le] at z; omega) hes hct hctT ha good
    exact ⟨⟨vn, r.1, trivial⟩, r.2⟩
end
