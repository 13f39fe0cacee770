-- pure rows: IF
section
/-! pure rows: functions are called -/
section
variable {X : Cx} {σ σ' σ1 : mSt} {F n nd i fn : Nat} {x x1 : Int32}
/-- call or perform, with fuel -/
theorem cal_way (arr : Arr X σ) (f44 : (σ.1 44).toInt = F + 1) (hF : F < 17000) (hnd : (frm σ F).node.toInt = nd) (hN : nd < X.N) (hx : x1 ≠ 0) :
    ((X.A 5 nd).toInt = 11 → F_Mo_comes n σ x1 = (1, F_Mo_performs n (mo_si σ 47 (σ.1 47 + 1)) (X.A 6 nd))) ∧
    ((X.A 5 nd).toInt = 10 ∧ (frm σ F).stage ≠ 0 ∧ 0 ≤ (frm σ F).val.toInt → F_Mo_comes n σ x1 = (1, F_Mo_callFunction n (mo_si σ 47 (σ.1 47 + 1)) (frm σ F).val.toInt32)) ∧
    ((X.A 5 nd).toInt = 10 ∧ (frm σ F).stage ≠ 0 ∧ (frm σ F).val.toInt < 0 → F_Mo_comes n σ x1 = (1, F_Mo_goOn n (mo_si σ 47 (σ.1 47 + 1)) (-1 - (frm σ F).val).toInt32)) := by
  obtain ⟨i44, -, -, w3⟩ := comes_way (n := n) (x1 := x1) arr f44 hF hnd hN
  have e44 : (σ.1 44 - 1).toNatClampNeg = F := by show (σ.1 44 - 1).toInt.toNat = F; omega
  have en1 : (frm σ F).node.toNatClampNeg = nd := by show (frm σ F).node.toInt.toNat = nd; omega
  have e5 := arr 5 (by omega) (by omega) nd hN
  have e6 := arr 6 (by omega) (by omega) nd hN
  have hval : σ.2.2.2 42 F = (frm σ F).val := rfl
  have kk : ∀ {z : Int32} {y : Int}, z.toInt = y → (X.A 5 nd).toInt ≠ y → ¬ X.A 5 nd = z := fun h1 h2 q => h2 (by rw [q]; exact h1)
  have kp : ∀ {z : Int32} {y : Int}, z.toInt = y → (X.A 5 nd).toInt = y → X.A 5 nd = z := fun h1 h2 => Int32.toInt_inj.mp (by rw [h1, h2])
  refine ⟨fun h => ?_, fun ⟨h, hs, hv⟩ => ?_, fun ⟨h, hs, hv⟩ => ?_⟩
  · rw [w3 (Or.inr h)]
    simp only [F_Mo_comes_j140, if_neg hx, en1, si_2, e5, e6, if_pos (kp (z := 11) (y := 11) rfl h), mbind_eq]
  · rw [w3 (Or.inl ⟨h, hs⟩)]
    have hlt : ¬ lg_cmp (frm σ F).val 0 < 0 := by rw [lgc_lt0]; omega
    simp only [F_Mo_comes_j140, if_neg hx, en1, si_2, e5, e6, if_neg (kk (z := 11) (y := 11) rfl (show (X.A 5 nd).toInt ≠ 11 by omega)), e44, hval, if_neg hlt, mbind_eq]
  · rw [w3 (Or.inl ⟨h, hs⟩)]
    have hlt : lg_cmp (frm σ F).val 0 < 0 := by rw [lgc_lt0]; omega
    simp only [F_Mo_comes_j140, if_neg hx, en1, si_2, e5, e6, if_neg (kk (z := 11) (y := 11) rfl (show (X.A 5 nd).toInt ≠ 11 by omega)), e44, hval, if_pos hlt, mbind_eq]
/-- no fuel is left -/
theorem cal_wait (arr : Arr X σ) (f44 : (σ.1 44).toInt = F + 1) (hF : F < 17000) (hnd : (frm σ F).node.toInt = nd) (hN : nd < X.N) (h : (X.A 5 nd).toInt = 10 ∧ (frm σ F).stage ≠ 0 ∨ (X.A 5 nd).toInt = 11) : F_Mo_comes n σ 0 = (0, σ) := by
  obtain ⟨i44, -, -, w3⟩ := comes_way (n := n) (x1 := 0) arr f44 hF hnd hN
  rw [w3 h]
  simp only [F_Mo_comes_j140, if_true]
/-- a function is called -/
theorem r_call (hX : X.Ok) (arr : Arr X σ) (f44 : (σ.1 44).toInt = F + 1) (hF : F < 16900) (hn : 12 ≤ n) (hi : i < 1000) (hx : x.toInt = i) (hfn : (σ.2.2.1 54 i).toInt = fn) (hN : fn < X.N) (hk : (X.A 5 fn).toInt = 7 ∨ (X.A 5 fn).toInt = 5) :
    (σ.1 49 = 400 → F_Mo_callFunction n σ x = mo_si σ 46 6) ∧
    (σ.1 49 ≠ 400 → (∃ fr : Fr, fr.node = -1 ∧ Rw σ (F_Mo_callFunction n σ x) (F + 1) (fr :: rfs σ F) (X.A 9 fn) (fun k => if k = (if (X.A 5 fn).toInt = 5 then (X.A 7 fn).toInt.toNat else (X.A 6 fn).toInt.toNat) then σ.2.1 else if (X.A 5 fn).toInt = 5 ∧ k = (X.A 6 fn).toInt.toNat then x.toInt64 else seen (σ.2.2.2 55) (10 * i) k)) ∧ HpE σ (F_Mo_callFunction n σ x) ∧ (F_Mo_callFunction n σ x).1 48 = σ.1 48 ∧ (F_Mo_callFunction n σ x).1 49 = σ.1 49 + 1) := by
  refine ⟨fun h => by simp only [F_Mo_callFunction, if_pos h], fun h400 => ?_⟩
  have e1 : x.toNatClampNeg = i := by show x.toInt.toNat = i; omega
  have i44 : (σ.1 44 - 1).toInt = F := by clear arr; ((try (simp only [vp_in, Int32.toNatClampNeg, Int32.lt_iff_toInt_lt, Int32.le_iff_toInt_le, ← Int32.toInt_inj, Int32.toInt_add, Int32.toInt_sub, Int32.toInt_mul, Int32.reduceToInt, i32_neg1, Nat.reducePow, Int.reducePow, ne_eq, ge_iff_le, gt_iff_lt] at *)) <;> (first | omega | ((simp (disch := omega) only [bm32] at *) <;> omega)))
  have e2 : (σ.2.2.1 54 i).toNatClampNeg = fn := by show (σ.2.2.1 54 i).toInt.toNat = fn; omega
  have E : ∀ k, 5 ≤ k → k ≤ 19 → ∀ i, i < bnd X k → σ.2.2.1 k i = X.A k i := arr
  simp (decide := true) only [F_Mo_callFunction, if_neg h400, mbind_eq, si_1, if_false, si_2, e1]
  obtain ⟨-, f1⟩ := callFunction_46_ok (F := i) (by omega) (x1 := x) (x2 := σ.2.2.1 54 i) hx 10 n 0 (mo_si (mo_si σ 44 (σ.1 44 - 1)) 49 (σ.1 49 + 1)) 0 rfl (by omega) (by omega)
  rw [f1]
  simp only [cp_3, si_2, e2, E 5 (by omega) (by omega) fn hN, E 6 (by omega) (by omega) fn hN]
  generalize hσ2 : cp (mo_si (mo_si σ 44 (σ.1 44 - 1)) 49 (σ.1 49 + 1)) 53 0 55 (10 * i) 0 = σ2
  have g2f : ∀ k, k ≠ 44 → k ≠ 49 → σ2.1 k = σ.1 k := fun k h1 h2 => by rw [← hσ2]; simp [si_1, si_2, sl_1, sl_2, sl_3, ai_1, ai_2, ai_3, ai_4, al_1, al_2, al_3, al_4, cp_1, cp_2, cp_3, cp_4, h1, h2, cp_1]
  have g244 : (σ2.1 44).toInt = F := by rw [← hσ2]; simp [si_1, si_2, sl_1, sl_2, sl_3, ai_1, ai_2, ai_3, ai_4, al_1, al_2, al_3, al_4, cp_1, cp_2, cp_3, cp_4, i44, cp_1]
  have g249 : σ2.1 49 = σ.1 49 + 1 := by rw [← hσ2]; simp [si_1, si_2, sl_1, sl_2, sl_3, ai_1, ai_2, ai_3, ai_4, al_1, al_2, al_3, al_4, cp_1, cp_2, cp_3, cp_4, cp_1]
  have g2l : σ2.2.1 = σ.2.1 := by rw [← hσ2]; rfl
  have g2a : σ2.2.2.1 = σ.2.2.1 := by rw [← hσ2]; rfl
  have g2al : ∀ k, k ≠ 53 → σ2.2.2.2 k = σ.2.2.2 k := fun k hk => by rw [← hσ2]; funext j; simp [si_1, si_2, sl_1, sl_2, sl_3, ai_1, ai_2, ai_3, ai_4, al_1, al_2, al_3, al_4, cp_1, cp_2, cp_3, cp_4, hk, cp_4]
  have ns : nsee σ2 = seen (σ.2.2.2 55) (10 * i) := by rw [← hσ2]; exact nsee_cp2
  have nm := hX.nm fn hN (by omega)
  have e5 : σ2.2.2.1 5 fn = X.A 5 fn := by rw [g2a]; exact E 5 (by omega) (by omega) fn hN
  have e6 : σ2.2.2.1 6 fn = X.A 6 fn := by rw [g2a]; exact E 6 (by omega) (by omega) fn hN
  have e7 : σ2.2.2.1 7 fn = X.A 7 fn := by rw [g2a]; exact E 7 (by omega) (by omega) fn hN
  have e9 : σ2.2.2.1 9 fn = X.A 9 fn := by rw [g2a]; exact E 9 (by omega) (by omega) fn hN
  have y6 : (X.A 6 fn).toNatClampNeg = (X.A 6 fn).toInt.toNat := rfl
  have y7 : (X.A 7 fn).toNatClampNeg = (X.A 7 fn).toInt.toNat := rfl
  rcases hk with h7 | h5
  · have n5 : ¬ X.A 5 fn = 5 := by clear arr E; ((try (simp only [vp_in, Int32.toNatClampNeg, Int32.lt_iff_toInt_lt, Int32.le_iff_toInt_le, ← Int32.toInt_inj, Int32.toInt_add, Int32.toInt_sub, Int32.toInt_mul, Int32.reduceToInt, i32_neg1, Nat.reducePow, Int.reducePow, ne_eq, ge_iff_le, gt_iff_lt] at *)) <;> (first | omega | ((simp (disch := omega) only [bm32] at *) <;> omega)))
    have n5' : ¬ (X.A 5 fn).toInt = 5 := by omega
    simp only [if_neg n5, F_Mo_callFunction_j98, F_Mo_callFunction_j127, e2, e5, e6, mbind_eq, al_3, e9, y6, if_neg n5', n5', false_and, if_false]
    obtain ⟨⟨fr, fm, r⟩, hp, c8, c9⟩ := Rw.mark (σ := σ) (σ1 := mo_al σ2 53 (X.A 6 fn).toInt.toNat σ2.2.1) (F := F) (x := X.A 9 fn) (by omega) (fun k z1 z2 => g2f k z1 z2) g244 g2a (fun k hk => by rw [← g2al k hk]; funext j; simp [si_1, si_2, sl_1, sl_2, sl_3, ai_1, ai_2, ai_3, ai_4, al_1, al_2, al_3, al_4, cp_1, cp_2, cp_3, cp_4, hk])
    refine ⟨⟨fr, fm, r.f44, r.rf, r.f45, r.f51, fun k hk => ?_, r.tab, r.f46, r.f47⟩, hp, c8, by rw [c9]; exact g249⟩
    rw [r.see k hk]
    dsimp only
    have en := nsee_al (σ := σ2) (y := (X.A 6 fn).toInt.toNat) (v := σ2.2.1) (by omega)
    by_cases z : k = (X.A 6 fn).toInt.toNat
    · rw [if_pos z, z, en.1, g2l]
    · rw [if_neg z, en.2 k hk z, ns]
  · have y5 : X.A 5 fn = 5 := by clear arr E; ((try (simp only [vp_in, Int32.toNatClampNeg, Int32.lt_iff_toInt_lt, Int32.le_iff_toInt_le, ← Int32.toInt_inj, Int32.toInt_add, Int32.toInt_sub, Int32.toInt_mul, Int32.reduceToInt, i32_neg1, Nat.reducePow, Int.reducePow, ne_eq, ge_iff_le, gt_iff_lt] at *)) <;> (first | omega | ((simp (disch := omega) only [bm32] at *) <;> omega)))
    have rc := hX.rc fn hN h5
    simp only [if_pos y5, F_Mo_callFunction_j98, F_Mo_callFunction_j127, e2, al_3, e5, e7, mbind_eq, e9, y6, y7, h5, true_and, al_2, if_true]
    obtain ⟨⟨fr, fm, r⟩, hp, c8, c9⟩ := Rw.mark (σ := σ) (σ1 := mo_al (mo_al σ2 53 (X.A 6 fn).toInt.toNat x.toInt64) 53 (X.A 7 fn).toInt.toNat σ2.2.1) (F := F) (x := X.A 9 fn) (by omega) (fun k z1 z2 => g2f k z1 z2) g244 g2a (fun k hk => by rw [← g2al k hk]; funext j; simp [si_1, si_2, sl_1, sl_2, sl_3, ai_1, ai_2, ai_3, ai_4, al_1, al_2, al_3, al_4, cp_1, cp_2, cp_3, cp_4, hk])
    refine ⟨⟨fr, fm, r.f44, r.rf, r.f45, r.f51, fun k hk => ?_, r.tab, r.f46, r.f47⟩, hp, c8, by rw [c9]; exact g249⟩
    rw [r.see k hk]
    dsimp only
    have en := nsee_al (σ := mo_al σ2 53 (X.A 6 fn).toInt.toNat x.toInt64) (y := (X.A 7 fn).toInt.toNat) (v := σ2.2.1) (by omega)
    have en2 := nsee_al (σ := σ2) (y := (X.A 6 fn).toInt.toNat) (v := x.toInt64) (by omega)
    by_cases z : k = (X.A 7 fn).toInt.toNat
    · rw [if_pos z, z, en.1, g2l]
    · rw [if_neg z, en.2 k hk z]
      by_cases z2 : k = (X.A 6 fn).toInt.toNat
      · rw [if_pos z2, z2, en2.1]
      · rw [if_neg z2, en2.2 k hk z2, ns]
end
end
