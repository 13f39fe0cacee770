-- pure rows: HW
section
/-! pure rows: the reference's steps, told of its frames -/
/-- it goes on with a node -/
def Rw (σ σ' : mSt) (F : Nat) (rf : List Fr) (nd : Int32) (see : Nat → Int64) : Prop := ((σ'.1 44).toInt = F) ∧ (rfs σ' F = rf) ∧ (σ'.1 45 = nd) ∧ (σ'.1 51 = 0) ∧ (∀ k, k < 10 → nsee σ' k = see k) ∧ (∀ k, k < 40 → σ'.2.2.1 k = σ.2.2.1 k) ∧ (σ'.1 46 = σ.1 46) ∧ (σ'.1 47 = σ.1 47)
theorem Rw.f44 {σ σ' : mSt} {F : Nat} {rf : List Fr} {nd : Int32} {see : Nat → Int64} (self : Rw σ σ' F rf nd see) : (σ'.1 44).toInt = F := self.1
theorem Rw.rf {σ σ' : mSt} {F : Nat} {rf : List Fr} {nd : Int32} {see : Nat → Int64} (self : Rw σ σ' F rf nd see) : rfs σ' F = rf := self.2.1
theorem Rw.f45 {σ σ' : mSt} {F : Nat} {rf : List Fr} {nd : Int32} {see : Nat → Int64} (self : Rw σ σ' F rf nd see) : σ'.1 45 = nd := self.2.2.1
theorem Rw.f51 {σ σ' : mSt} {F : Nat} {rf : List Fr} {nd : Int32} {see : Nat → Int64} (self : Rw σ σ' F rf nd see) : σ'.1 51 = 0 := self.2.2.2.1
theorem Rw.see {σ σ' : mSt} {F : Nat} {rf : List Fr} {nd : Int32} {see : Nat → Int64} (self : Rw σ σ' F rf nd see) : ∀ k, k < 10 → nsee σ' k = see k := self.2.2.2.2.1
theorem Rw.tab {σ σ' : mSt} {F : Nat} {rf : List Fr} {nd : Int32} {see : Nat → Int64} (self : Rw σ σ' F rf nd see) : ∀ k, k < 40 → σ'.2.2.1 k = σ.2.2.1 k := self.2.2.2.2.2.1
theorem Rw.f46 {σ σ' : mSt} {F : Nat} {rf : List Fr} {nd : Int32} {see : Nat → Int64} (self : Rw σ σ' F rf nd see) : σ'.1 46 = σ.1 46 := self.2.2.2.2.2.2.1
theorem Rw.f47 {σ σ' : mSt} {F : Nat} {rf : List Fr} {nd : Int32} {see : Nat → Int64} (self : Rw σ σ' F rf nd see) : σ'.1 47 = σ.1 47 := self.2.2.2.2.2.2.2
/-- it has a value -/
def Rg (σ σ' : mSt) (F : Nat) (rf : List Fr) (vl : Int64) : Prop := ((σ'.1 44).toInt = F) ∧ (rfs σ' F = rf) ∧ (σ'.1 51 ≠ 0) ∧ (σ'.2.1 = vl) ∧ (∀ k, k < 40 → σ'.2.2.1 k = σ.2.2.1 k) ∧ (σ'.1 46 = σ.1 46) ∧ (σ'.1 47 = σ.1 47)
theorem Rg.f44 {σ σ' : mSt} {F : Nat} {rf : List Fr} {vl : Int64} (self : Rg σ σ' F rf vl) : (σ'.1 44).toInt = F := self.1
theorem Rg.rf {σ σ' : mSt} {F : Nat} {rf : List Fr} {vl : Int64} (self : Rg σ σ' F rf vl) : rfs σ' F = rf := self.2.1
theorem Rg.f51 {σ σ' : mSt} {F : Nat} {rf : List Fr} {vl : Int64} (self : Rg σ σ' F rf vl) : σ'.1 51 ≠ 0 := self.2.2.1
theorem Rg.vl {σ σ' : mSt} {F : Nat} {rf : List Fr} {vl : Int64} (self : Rg σ σ' F rf vl) : σ'.2.1 = vl := self.2.2.2.1
theorem Rg.tab {σ σ' : mSt} {F : Nat} {rf : List Fr} {vl : Int64} (self : Rg σ σ' F rf vl) : ∀ k, k < 40 → σ'.2.2.1 k = σ.2.2.1 k := self.2.2.2.2.1
theorem Rg.f46 {σ σ' : mSt} {F : Nat} {rf : List Fr} {vl : Int64} (self : Rg σ σ' F rf vl) : σ'.1 46 = σ.1 46 := self.2.2.2.2.2.1
theorem Rg.f47 {σ σ' : mSt} {F : Nat} {rf : List Fr} {vl : Int64} (self : Rg σ σ' F rf vl) : σ'.1 47 = σ.1 47 := self.2.2.2.2.2.2
section
variable {X : Cx} {σ σ' σ1 : mSt} {F n nd : Nat} {x x1 : Int32}
theorem Rw.of (h1 : ∀ k, k ≠ 44 → σ1.1 k = σ.1 k) (h44 : (σ1.1 44).toInt = F) (h3 : σ1.2.2.1 = σ.2.2.1) (h4 : ∀ k, k ≠ 53 → σ1.2.2.2 k = σ.2.2.2 k) : Rw σ (F_Mo_work σ1 x) F (rfs σ F) x (nsee σ1) ∧ HpE σ (F_Mo_work σ1 x) ∧ (F_Mo_work σ1 x).1 48 = σ.1 48 ∧ (F_Mo_work σ1 x).1 49 = σ.1 49 := by
  have fr : frm (F_Mo_work σ1 x) = frm σ := frm_of (fun k _ => by show σ1.2.2.1 k = _; rw [h3]) (fun k hk => by show σ1.2.2.2 k = _; exact h4 k (by omega))
  have g : ∀ k, k ≠ 44 → k ≠ 45 → k ≠ 51 → (F_Mo_work σ1 x).1 k = σ.1 k := fun k a b c => by simp only [F_Mo_work, si_1]; rw [if_neg c, if_neg b, h1 k a]
  refine ⟨⟨?_, rfs_c (fun i _ => by rw [fr]), by simp [si_1, si_2, sl_1, sl_2, sl_3, ai_1, ai_2, ai_3, ai_4, al_1, al_2, al_3, al_4, cp_1, cp_2, cp_3, cp_4, F_Mo_work], by simp [si_1, si_2, sl_1, sl_2, sl_3, ai_1, ai_2, ai_3, ai_4, al_1, al_2, al_3, al_4, cp_1, cp_2, cp_3, cp_4, F_Mo_work], fun k _ => rfl, fun k _ => by show σ1.2.2.1 k = _; rw [h3], g 46 (by omega) (by omega) (by omega), g 47 (by omega) (by omega) (by omega)⟩, ⟨fun k hk => g k (by omega) (by omega) (by omega), fun k _ => by show σ1.2.2.1 k = _; rw [h3], fun k hk => by show σ1.2.2.2 k = _; exact h4 k (by omega)⟩, g 48 (by omega) (by omega) (by omega), g 49 (by omega) (by omega) (by omega)⟩
  simp only [F_Mo_work, si_1]
  rw [if_neg (by omega), if_neg (by omega)]
  exact h44
/-- a marked frame, then a node -/
theorem Rw.mark (hF : F < 17000) (h1 : ∀ k, k ≠ 44 → k ≠ 49 → σ1.1 k = σ.1 k) (h44 : (σ1.1 44).toInt = F) (h3 : σ1.2.2.1 = σ.2.2.1) (h4 : ∀ k, k ≠ 53 → σ1.2.2.2 k = σ.2.2.2 k) : (∃ fr : Fr, fr.node = -1 ∧ Rw σ (F_Mo_workMarked σ1 x) (F + 1) (fr :: rfs σ F) x (nsee σ1)) ∧ HpE σ (F_Mo_workMarked σ1 x) ∧ (F_Mo_workMarked σ1 x).1 48 = σ.1 48 ∧ (F_Mo_workMarked σ1 x).1 49 = σ1.1 49 := by
  have e44 : (σ1.1 44).toNatClampNeg = F := by show (σ1.1 44).toInt.toNat = F; omega
  have e1 : (σ1.1 44 + 1).toInt = F + 1 := by clear h1 h3 h4; ((try (simp only [vp_in, Int32.toNatClampNeg, Int32.lt_iff_toInt_lt, Int32.le_iff_toInt_le, ← Int32.toInt_inj, Int32.toInt_add, Int32.toInt_sub, Int32.toInt_mul, Int32.reduceToInt, i32_neg1, Nat.reducePow, Int.reducePow, ne_eq, ge_iff_le, gt_iff_lt] at *)) <;> (first | omega | ((simp (disch := omega) only [bm32] at *) <;> omega)))
  have eM : F_Mo_workMarked σ1 x = F_Mo_work (mo_si (mo_ai σ1 40 F (-1)) 44 (σ1.1 44 + 1)) x := by
    simp only [F_Mo_workMarked, mbind_eq, e44, ai_1]
  rw [eM]
  have fr : ∀ i, frm (F_Mo_work (mo_si (mo_ai σ1 40 F (-1)) 44 (σ1.1 44 + 1)) x) i = if i = F then ⟨-1, (frm σ1 F).stage, (frm σ1 F).val, (frm σ1 F).see⟩ else frm σ1 i := fun i => frm_mark (x := σ1.1 44 + 1)
  have fs : frm σ1 = frm σ := frm_of (fun k _ => by rw [h3]) (fun k hk => h4 k (by omega))
  have g : ∀ k, k ≠ 44 → k ≠ 45 → k ≠ 51 → (F_Mo_work (mo_si (mo_ai σ1 40 F (-1)) 44 (σ1.1 44 + 1)) x).1 k = σ1.1 k := fun k a b c => by simp only [F_Mo_work, si_1, ai_1]; rw [if_neg c, if_neg b, if_neg a]
  have ta : ∀ k, k ≠ 40 → (F_Mo_work (mo_si (mo_ai σ1 40 F (-1)) 44 (σ1.1 44 + 1)) x).2.2.1 k = σ.2.2.1 k := fun k hk => by
    funext i
    simp only [F_Mo_work, si_2, ai_3]
    rw [if_neg (by omega), h3]
  refine ⟨⟨⟨-1, (frm σ1 F).stage, (frm σ1 F).val, (frm σ1 F).see⟩, rfl, ?_, ?_, by simp [si_1, si_2, sl_1, sl_2, sl_3, ai_1, ai_2, ai_3, ai_4, al_1, al_2, al_3, al_4, cp_1, cp_2, cp_3, cp_4, F_Mo_work], by simp [si_1, si_2, sl_1, sl_2, sl_3, ai_1, ai_2, ai_3, ai_4, al_1, al_2, al_3, al_4, cp_1, cp_2, cp_3, cp_4, F_Mo_work], fun k _ => rfl, fun k hk => ta k (by omega), ?_, ?_⟩, ⟨fun k hk => ?_, fun k hk => ta k (by omega), fun k hk => h4 k (by omega)⟩, ?_, ?_⟩
  · simp only [F_Mo_work, si_1]
    rw [if_neg (by omega), if_neg (by omega), if_pos trivial]
    omega
  · show frm (F_Mo_work (mo_si (mo_ai σ1 40 F (-1)) 44 (σ1.1 44 + 1)) x) F :: rfs (F_Mo_work (mo_si (mo_ai σ1 40 F (-1)) 44 (σ1.1 44 + 1)) x) F = _
    rw [fr F, if_pos rfl, rfs_c (σ := σ) (fun i hi => by rw [fr i, if_neg (by omega), fs])]
  · rw [g 46 (by omega) (by omega) (by omega)]; exact h1 46 (by omega) (by omega)
  · rw [g 47 (by omega) (by omega) (by omega)]; exact h1 47 (by omega) (by omega)
  · rw [g k (by omega) (by omega) (by omega)]; exact h1 k (by omega) (by omega)
  · rw [g 48 (by omega) (by omega) (by omega)]; exact h1 48 (by omega) (by omega)
  · exact g 49 (by omega) (by omega) (by omega)
/-- which way a value that comes takes -/
theorem comes_way (arr : Arr X σ) (f44 : (σ.1 44).toInt = F + 1) (hF : F < 17000) (hnd : (frm σ F).node.toInt = nd) (hN : nd < X.N) : (σ.1 44 - 1).toInt = F ∧
    (((X.A 5 nd).toInt = 4 ∨ (X.A 5 nd).toInt = 6 ∨ (X.A 5 nd).toInt = 8 ∨ (X.A 5 nd).toInt = 9 ∧ (frm σ F).stage ≠ 0) → F_Mo_comes n σ x1 = (1, F_Mo_goesBehind n σ (σ.1 44 - 1) (frm σ F).node)) ∧
    (((X.A 5 nd).toInt = 9 ∨ (X.A 5 nd).toInt = 10) ∧ (frm σ F).stage = 0 → F_Mo_comes n σ x1 = F_Mo_comes_j77 n σ x1 (σ.1 44 - 1) (frm σ F).node 1) ∧
    (((X.A 5 nd).toInt = 10 ∧ (frm σ F).stage ≠ 0 ∨ (X.A 5 nd).toInt = 11) → F_Mo_comes n σ x1 = F_Mo_comes_j140 n σ x1 (σ.1 44 - 1) (frm σ F).node) := by
  have i44 : (σ.1 44 - 1).toInt = F := by clear arr; ((try (simp only [vp_in, Int32.toNatClampNeg, Int32.lt_iff_toInt_lt, Int32.le_iff_toInt_le, ← Int32.toInt_inj, Int32.toInt_add, Int32.toInt_sub, Int32.toInt_mul, Int32.reduceToInt, i32_neg1, Nat.reducePow, Int.reducePow, ne_eq, ge_iff_le, gt_iff_lt] at *)) <;> (first | omega | ((simp (disch := omega) only [bm32] at *) <;> omega)))
  have e44 : (σ.1 44 - 1).toNatClampNeg = F := by show (σ.1 44 - 1).toInt.toNat = F; omega
  have hnode : σ.2.2.1 40 F = (frm σ F).node := rfl
  have hstage : σ.2.2.1 41 F = (frm σ F).stage := rfl
  obtain ⟨-, -, ne, en1, -⟩ := ctd_of (X := X) hnd
  have e5 := arr 5 (by omega) (by omega) nd hN
  have kk : ∀ {z : Int32} {y : Int}, z.toInt = y → (X.A 5 nd).toInt ≠ y → ¬ X.A 5 nd = z := fun h1 h2 q => h2 (by rw [q]; exact h1)
  have kp : ∀ {z : Int32} {y : Int}, z.toInt = y → (X.A 5 nd).toInt = y → X.A 5 nd = z := fun h1 h2 => Int32.toInt_inj.mp (by rw [h1, h2])
  refine ⟨i44, fun h => ?_, fun h => ?_, fun h => ?_⟩
  · simp only [F_Mo_comes, e44, hnode, if_neg ne, en1, e5]
    rcases h with h | h | h | ⟨h, hs⟩
    · rw [if_neg (kk (z := 9) (y := 9) rfl (by omega)), if_neg (kk (z := 10) (y := 10) rfl (by omega))]
      simp only [F_Mo_comes_j76, F_Mo_comes_j77, if_true, en1, e5, if_neg (kk (z := 10) (y := 10) rfl (show (X.A 5 nd).toInt ≠ 10 by omega)), if_neg (kk (z := 11) (y := 11) rfl (show (X.A 5 nd).toInt ≠ 11 by omega)), mbind_eq]
    · rw [if_neg (kk (z := 9) (y := 9) rfl (by omega)), if_neg (kk (z := 10) (y := 10) rfl (by omega))]
      simp only [F_Mo_comes_j76, F_Mo_comes_j77, if_true, en1, e5, if_neg (kk (z := 10) (y := 10) rfl (show (X.A 5 nd).toInt ≠ 10 by omega)), if_neg (kk (z := 11) (y := 11) rfl (show (X.A 5 nd).toInt ≠ 11 by omega)), mbind_eq]
    · rw [if_neg (kk (z := 9) (y := 9) rfl (by omega)), if_neg (kk (z := 10) (y := 10) rfl (by omega))]
      simp only [F_Mo_comes_j76, F_Mo_comes_j77, if_true, en1, e5, if_neg (kk (z := 10) (y := 10) rfl (show (X.A 5 nd).toInt ≠ 10 by omega)), if_neg (kk (z := 11) (y := 11) rfl (show (X.A 5 nd).toInt ≠ 11 by omega)), mbind_eq]
    · rw [if_pos (kp (z := 9) (y := 9) rfl h)]
      simp only [F_Mo_comes_j63, e44, hstage, if_neg hs, F_Mo_comes_j76, F_Mo_comes_j77, if_true, en1, e5, if_neg (kk (z := 10) (y := 10) rfl (show (X.A 5 nd).toInt ≠ 10 by omega)), if_neg (kk (z := 11) (y := 11) rfl (show (X.A 5 nd).toInt ≠ 11 by omega)), mbind_eq]
  · obtain ⟨h, hs⟩ := h
    simp only [F_Mo_comes, e44, hnode, if_neg ne, en1, e5]
    rcases h with h | h
    · rw [if_pos (kp (z := 9) (y := 9) rfl h)]
      simp only [F_Mo_comes_j63, e44, hstage, if_pos hs]
    · rw [if_neg (kk (z := 9) (y := 9) rfl (by omega)), if_pos (kp (z := 10) (y := 10) rfl h)]
      simp only [F_Mo_comes_j63, e44, hstage, if_pos hs]
  · simp only [F_Mo_comes, e44, hnode, if_neg ne, en1, e5]
    rcases h with ⟨h, hs⟩ | h
    · rw [if_neg (kk (z := 9) (y := 9) rfl (by omega)), if_pos (kp (z := 10) (y := 10) rfl h)]
      simp only [F_Mo_comes_j63, e44, hstage, if_neg hs, F_Mo_comes_j76, F_Mo_comes_j77, if_true, en1, e5, if_pos (kp (z := 10) (y := 10) rfl h)]
    · rw [if_neg (kk (z := 9) (y := 9) rfl (by omega)), if_neg (kk (z := 10) (y := 10) rfl (by omega))]
      simp only [F_Mo_comes_j76, F_Mo_comes_j77, if_true, en1, e5, if_neg (kk (z := 10) (y := 10) rfl (show (X.A 5 nd).toInt ≠ 10 by omega)), if_pos (kp (z := 11) (y := 11) rfl h)]
/-- a value comes to let -/
theorem r_let (hX : X.Ok) (arr : Arr X σ) (f44 : (σ.1 44).toInt = F + 1) (hF : F < 17000) (hn : 12 ≤ n) (hnd : (frm σ F).node.toInt = nd) (hN : nd < X.N) (h4 : (X.A 5 nd).toInt = 4) : ∃ σ', F_Mo_comes n σ x1 = (1, σ') ∧ Rw σ σ' F (rfs σ F) (X.A 10 nd) (fun k => if k = (X.A 6 nd).toInt.toNat then σ.2.1 else (frm σ F).see k) ∧ HpE σ σ' ∧ σ'.1 48 = σ.1 48 ∧ σ'.1 49 = σ.1 49 := by
  obtain ⟨i44, w1, -⟩ := comes_way (n := n) (x1 := x1) arr f44 hF hnd hN
  rw [w1 (Or.inl h4)]
  have e2 : (frm σ F).node.toNatClampNeg = nd := by show (frm σ F).node.toInt.toNat = nd; omega
  have E : ∀ k, 5 ≤ k → k ≤ 19 → ∀ i, i < bnd X k → σ.2.2.1 k i = X.A k i := arr
  have e5 := E 5 (by omega) (by omega) nd hN
  have nm := hX.nm nd hN (by omega)
  have k9 : ¬ X.A 5 nd = 9 := by clear arr E; ((try (simp only [vp_in, Int32.toNatClampNeg, Int32.lt_iff_toInt_lt, Int32.le_iff_toInt_le, ← Int32.toInt_inj, Int32.toInt_add, Int32.toInt_sub, Int32.toInt_mul, Int32.reduceToInt, i32_neg1, Nat.reducePow, Int.reducePow, ne_eq, ge_iff_le, gt_iff_lt] at *)) <;> (first | omega | ((simp (disch := omega) only [bm32] at *) <;> omega)))
  have k6 : ¬ X.A 5 nd = 6 := by clear arr E; ((try (simp only [vp_in, Int32.toNatClampNeg, Int32.lt_iff_toInt_lt, Int32.le_iff_toInt_le, ← Int32.toInt_inj, Int32.toInt_add, Int32.toInt_sub, Int32.toInt_mul, Int32.reduceToInt, i32_neg1, Nat.reducePow, Int.reducePow, ne_eq, ge_iff_le, gt_iff_lt] at *)) <;> (first | omega | ((simp (disch := omega) only [bm32] at *) <;> omega)))
  have k8 : ¬ X.A 5 nd = 8 := by clear arr E; ((try (simp only [vp_in, Int32.toNatClampNeg, Int32.lt_iff_toInt_lt, Int32.le_iff_toInt_le, ← Int32.toInt_inj, Int32.toInt_add, Int32.toInt_sub, Int32.toInt_mul, Int32.reduceToInt, i32_neg1, Nat.reducePow, Int.reducePow, ne_eq, ge_iff_le, gt_iff_lt] at *)) <;> (first | omega | ((simp (disch := omega) only [bm32] at *) <;> omega)))
  obtain ⟨-, sf⟩ := seeAgain_ok (σ := σ) (F := F) hF i44 hn
  have y6 : (X.A 6 nd).toNatClampNeg = (X.A 6 nd).toInt.toNat := rfl
  have eq : F_Mo_goesBehind n σ (σ.1 44 - 1) (frm σ F).node = F_Mo_work (mo_al (mo_si (cp σ 53 0 43 (10 * F) 0) 44 (σ.1 44 - 1)) 53 (X.A 6 nd).toInt.toNat σ.2.1) (X.A 10 nd) := by
    simp only [F_Mo_goesBehind, e2, e5, if_neg k9, mbind_eq, sf, si_2, cp_3, if_neg k6, E 6 (by omega) (by omega) nd hN, al_3, if_neg k8, E 10 (by omega) (by omega) nd hN, cp_1, y6, cp_2]
  rw [eq]
  obtain ⟨r, hp, c8, c9⟩ := Rw.of (σ := σ) (σ1 := mo_al (mo_si (cp σ 53 0 43 (10 * F) 0) 44 (σ.1 44 - 1)) 53 (X.A 6 nd).toInt.toNat σ.2.1) (F := F) (x := X.A 10 nd) (fun k hk => by simp [si_1, si_2, sl_1, sl_2, sl_3, ai_1, ai_2, ai_3, ai_4, al_1, al_2, al_3, al_4, cp_1, cp_2, cp_3, cp_4, hk]) (by simp [si_1, si_2, sl_1, sl_2, sl_3, ai_1, ai_2, ai_3, ai_4, al_1, al_2, al_3, al_4, cp_1, cp_2, cp_3, cp_4, i44]) rfl (fun k hk => by funext i; simp [si_1, si_2, sl_1, sl_2, sl_3, ai_1, ai_2, ai_3, ai_4, al_1, al_2, al_3, al_4, cp_1, cp_2, cp_3, cp_4, hk, cp_4])
  refine ⟨_, rfl, ⟨r.f44, r.rf, r.f45, r.f51, fun k hk => ?_, r.tab, r.f46, r.f47⟩, hp, c8, c9⟩
  rw [r.see k hk]
  dsimp only
  have e := nsee_al (σ := mo_si (cp σ 53 0 43 (10 * F) 0) 44 (σ.1 44 - 1)) (y := (X.A 6 nd).toInt.toNat) (v := σ.2.1) (by omega)
  by_cases z : k = (X.A 6 nd).toInt.toNat
  · rw [if_pos z, z]; exact e.1
  · rw [if_neg z, e.2 k hk z]
    exact congrFun (nsee_cp (σ := σ) (F := F)) k
/-- a value comes to a handler -/
theorem r_han (hX : X.Ok) (arr : Arr X σ) (f44 : (σ.1 44).toInt = F + 1) (hF : F < 16900) (hn : 12 ≤ n) (hnd : (frm σ F).node.toInt = nd) (hN : nd < X.N) (h8 : (X.A 5 nd).toInt = 8) : ∃ σ', F_Mo_comes n σ x1 = (1, σ') ∧ (∃ fr : Fr, fr.node = -1 ∧ Rw σ σ' (F + 1) (fr :: rfs σ F) (X.A 10 nd) (fun k => if k = (X.A 6 nd).toInt.toNat then σ.2.1 else (frm σ F).see k)) ∧ HpE σ σ' ∧ σ'.1 48 = σ.1 48 ∧ σ'.1 49 = σ.1 49 := by
  obtain ⟨i44, w1, -⟩ := comes_way (n := n) (x1 := x1) arr f44 (by omega) hnd hN
  rw [w1 (Or.inr (Or.inr (Or.inl h8)))]
  have e2 : (frm σ F).node.toNatClampNeg = nd := by show (frm σ F).node.toInt.toNat = nd; omega
  have E : ∀ k, 5 ≤ k → k ≤ 19 → ∀ i, i < bnd X k → σ.2.2.1 k i = X.A k i := arr
  have e5 := E 5 (by omega) (by omega) nd hN
  have nm := hX.nm nd hN (by omega)
  have k9 : ¬ X.A 5 nd = 9 := by clear arr E; ((try (simp only [vp_in, Int32.toNatClampNeg, Int32.lt_iff_toInt_lt, Int32.le_iff_toInt_le, ← Int32.toInt_inj, Int32.toInt_add, Int32.toInt_sub, Int32.toInt_mul, Int32.reduceToInt, i32_neg1, Nat.reducePow, Int.reducePow, ne_eq, ge_iff_le, gt_iff_lt] at *)) <;> (first | omega | ((simp (disch := omega) only [bm32] at *) <;> omega)))
  have k6 : ¬ X.A 5 nd = 6 := by clear arr E; ((try (simp only [vp_in, Int32.toNatClampNeg, Int32.lt_iff_toInt_lt, Int32.le_iff_toInt_le, ← Int32.toInt_inj, Int32.toInt_add, Int32.toInt_sub, Int32.toInt_mul, Int32.reduceToInt, i32_neg1, Nat.reducePow, Int.reducePow, ne_eq, ge_iff_le, gt_iff_lt] at *)) <;> (first | omega | ((simp (disch := omega) only [bm32] at *) <;> omega)))
  have k8 : X.A 5 nd = 8 := by clear arr E; ((try (simp only [vp_in, Int32.toNatClampNeg, Int32.lt_iff_toInt_lt, Int32.le_iff_toInt_le, ← Int32.toInt_inj, Int32.toInt_add, Int32.toInt_sub, Int32.toInt_mul, Int32.reduceToInt, i32_neg1, Nat.reducePow, Int.reducePow, ne_eq, ge_iff_le, gt_iff_lt] at *)) <;> (first | omega | ((simp (disch := omega) only [bm32] at *) <;> omega)))
  obtain ⟨-, sf⟩ := seeAgain_ok (σ := σ) (F := F) (by omega) i44 hn
  have y6 : (X.A 6 nd).toNatClampNeg = (X.A 6 nd).toInt.toNat := rfl
  have eq : F_Mo_goesBehind n σ (σ.1 44 - 1) (frm σ F).node = F_Mo_workMarked (mo_al (mo_si (cp σ 53 0 43 (10 * F) 0) 44 (σ.1 44 - 1)) 53 (X.A 6 nd).toInt.toNat σ.2.1) (X.A 10 nd) := by
    simp only [F_Mo_goesBehind, e2, e5, if_neg k9, mbind_eq, sf, si_2, cp_3, if_neg k6, E 6 (by omega) (by omega) nd hN, al_3, if_pos k8, E 10 (by omega) (by omega) nd hN, cp_1, y6, cp_2]
  rw [eq]
  obtain ⟨⟨fr, fm, r⟩, hp, c8, c9⟩ := Rw.mark (σ := σ) (σ1 := mo_al (mo_si (cp σ 53 0 43 (10 * F) 0) 44 (σ.1 44 - 1)) 53 (X.A 6 nd).toInt.toNat σ.2.1) (F := F) (x := X.A 10 nd) (by omega) (fun k hk _ => by simp [si_1, si_2, sl_1, sl_2, sl_3, ai_1, ai_2, ai_3, ai_4, al_1, al_2, al_3, al_4, cp_1, cp_2, cp_3, cp_4, hk]) (by simp [si_1, si_2, sl_1, sl_2, sl_3, ai_1, ai_2, ai_3, ai_4, al_1, al_2, al_3, al_4, cp_1, cp_2, cp_3, cp_4, i44]) rfl (fun k hk => by funext i; simp [si_1, si_2, sl_1, sl_2, sl_3, ai_1, ai_2, ai_3, ai_4, al_1, al_2, al_3, al_4, cp_1, cp_2, cp_3, cp_4, hk, cp_4])
  refine ⟨_, rfl, ⟨fr, fm, r.f44, r.rf, r.f45, r.f51, fun k hk => ?_, r.tab, r.f46, r.f47⟩, hp, c8, by rw [c9]; simp [si_1, si_2, sl_1, sl_2, sl_3, ai_1, ai_2, ai_3, ai_4, al_1, al_2, al_3, al_4, cp_1, cp_2, cp_3, cp_4]⟩
  rw [r.see k hk]
  dsimp only
  have e := nsee_al (σ := mo_si (cp σ 53 0 43 (10 * F) 0) 44 (σ.1 44 - 1)) (y := (X.A 6 nd).toInt.toNat) (v := σ.2.1) (by omega)
  by_cases z : k = (X.A 6 nd).toInt.toNat
  · rw [if_pos z, z]; exact e.1
  · rw [if_neg z, e.2 k hk z]
    exact congrFun (nsee_cp (σ := σ) (F := F)) k
/-- a value comes to if -/
theorem r_if (arr : Arr X σ) (f44 : (σ.1 44).toInt = F + 1) (hF : F < 17000) (hn : 12 ≤ n) (hnd : (frm σ F).node.toInt = nd) (hN : nd < X.N) (h6 : (X.A 5 nd).toInt = 6) : ∃ σ', F_Mo_comes n σ x1 = (1, σ') ∧ Rw σ σ' F (rfs σ F) (if σ.2.1.toInt = 0 then X.A 11 nd else X.A 10 nd) (frm σ F).see ∧ HpE σ σ' ∧ σ'.1 48 = σ.1 48 ∧ σ'.1 49 = σ.1 49 := by
  obtain ⟨i44, w1, -⟩ := comes_way (n := n) (x1 := x1) arr f44 hF hnd hN
  rw [w1 (Or.inr (Or.inl h6))]
  have e2 : (frm σ F).node.toNatClampNeg = nd := by show (frm σ F).node.toInt.toNat = nd; omega
  have E : ∀ k, 5 ≤ k → k ≤ 19 → ∀ i, i < bnd X k → σ.2.2.1 k i = X.A k i := arr
  have e5 := E 5 (by omega) (by omega) nd hN
  have k9 : ¬ X.A 5 nd = 9 := by clear arr E; ((try (simp only [vp_in, Int32.toNatClampNeg, Int32.lt_iff_toInt_lt, Int32.le_iff_toInt_le, ← Int32.toInt_inj, Int32.toInt_add, Int32.toInt_sub, Int32.toInt_mul, Int32.reduceToInt, i32_neg1, Nat.reducePow, Int.reducePow, ne_eq, ge_iff_le, gt_iff_lt] at *)) <;> (first | omega | ((simp (disch := omega) only [bm32] at *) <;> omega)))
  have k6 : X.A 5 nd = 6 := by clear arr E; ((try (simp only [vp_in, Int32.toNatClampNeg, Int32.lt_iff_toInt_lt, Int32.le_iff_toInt_le, ← Int32.toInt_inj, Int32.toInt_add, Int32.toInt_sub, Int32.toInt_mul, Int32.reduceToInt, i32_neg1, Nat.reducePow, Int.reducePow, ne_eq, ge_iff_le, gt_iff_lt] at *)) <;> (first | omega | ((simp (disch := omega) only [bm32] at *) <;> omega)))
  obtain ⟨-, sf⟩ := seeAgain_ok (σ := σ) (F := F) hF i44 hn
  have lz : lg_cmp σ.2.1 0 = 0 ↔ σ.2.1.toInt = 0 := by
    unfold lg_cmp
    have z0 : (0 : Int64).toInt = 0 := rfl
    by_cases h1 : σ.2.1 > 0
    · rw [if_pos h1]
      have := Int64.lt_iff_toInt_lt.mp h1
      rw [z0] at this
      exact ⟨fun h => absurd h (by decide), fun h => by omega⟩
    · rw [if_neg h1]
      by_cases h2 : σ.2.1 = 0
      · rw [if_pos h2, h2]; exact ⟨fun _ => rfl, fun _ => rfl⟩
      · rw [if_neg h2]
        exact ⟨fun h => absurd h (by decide), fun h => absurd (Int64.toInt_inj.mp (by rw [h]; rfl)) h2⟩
  have eq : F_Mo_goesBehind n σ (σ.1 44 - 1) (frm σ F).node = F_Mo_work (mo_si (cp σ 53 0 43 (10 * F) 0) 44 (σ.1 44 - 1)) (if σ.2.1.toInt = 0 then X.A 11 nd else X.A 10 nd) := by
    simp only [F_Mo_goesBehind, e2, e5, if_neg k9, mbind_eq, sf, si_2, cp_3, if_pos k6, E 11 (by omega) (by omega) nd hN, E 10 (by omega) (by omega) nd hN, cp_1, cp_2]
    by_cases z : lg_cmp σ.2.1 0 = 0
    · simp only [if_pos z, if_pos (lz.mp z)]
    · simp only [if_neg z, if_neg (fun q => z (lz.mpr q))]
  rw [eq]
  obtain ⟨r, hp, c8, c9⟩ := Rw.of (σ := σ) (σ1 := mo_si (cp σ 53 0 43 (10 * F) 0) 44 (σ.1 44 - 1)) (F := F) (x := if σ.2.1.toInt = 0 then X.A 11 nd else X.A 10 nd) (fun k hk => by simp [si_1, si_2, sl_1, sl_2, sl_3, ai_1, ai_2, ai_3, ai_4, al_1, al_2, al_3, al_4, cp_1, cp_2, cp_3, cp_4, hk]) (by simp [si_1, si_2, sl_1, sl_2, sl_3, ai_1, ai_2, ai_3, ai_4, al_1, al_2, al_3, al_4, cp_1, cp_2, cp_3, cp_4, i44]) rfl (fun k hk => by funext i; simp [si_1, si_2, sl_1, sl_2, sl_3, ai_1, ai_2, ai_3, ai_4, al_1, al_2, al_3, al_4, cp_1, cp_2, cp_3, cp_4, hk, cp_4])
  refine ⟨_, rfl, ⟨r.f44, r.rf, r.f45, r.f51, fun k hk => ?_, r.tab, r.f46, r.f47⟩, hp, c8, c9⟩
  rw [r.see k hk]
  exact congrFun (nsee_cp (σ := σ) (F := F)) k
/-- a value comes to two's second part -/
theorem r_two (arr : Arr X σ) (f44 : (σ.1 44).toInt = F + 1) (hF : F < 17000) (hnd : (frm σ F).node.toInt = nd) (hN : nd < X.N) (h9 : (X.A 5 nd).toInt = 9) (hst : (frm σ F).stage ≠ 0) : ∃ σ', F_Mo_comes n σ x1 = (1, σ') ∧ Rg σ σ' F (rfs σ F) (two32 (X.A 6 nd) (frm σ F).val.toInt32 σ.2.1.toInt32).toInt64 ∧ HpE σ σ' ∧ σ'.1 48 = σ.1 48 ∧ σ'.1 49 = σ.1 49 := by
  obtain ⟨i44, w1, -⟩ := comes_way (n := n) (x1 := x1) arr f44 hF hnd hN
  rw [w1 (Or.inr (Or.inr (Or.inr ⟨h9, hst⟩)))]
  have e2 : (frm σ F).node.toNatClampNeg = nd := by show (frm σ F).node.toInt.toNat = nd; omega
  have e1 : (σ.1 44 - 1).toNatClampNeg = F := by show (σ.1 44 - 1).toInt.toNat = F; omega
  have E : ∀ k, 5 ≤ k → k ≤ 19 → ∀ i, i < bnd X k → σ.2.2.1 k i = X.A k i := arr
  have e5 := E 5 (by omega) (by omega) nd hN
  have k9 : X.A 5 nd = 9 := by clear arr E; ((try (simp only [vp_in, Int32.toNatClampNeg, Int32.lt_iff_toInt_lt, Int32.le_iff_toInt_le, ← Int32.toInt_inj, Int32.toInt_add, Int32.toInt_sub, Int32.toInt_mul, Int32.reduceToInt, i32_neg1, Nat.reducePow, Int.reducePow, ne_eq, ge_iff_le, gt_iff_lt] at *)) <;> (first | omega | ((simp (disch := omega) only [bm32] at *) <;> omega)))
  have hval : σ.2.2.2 42 F = (frm σ F).val := rfl
  have rk : F_Mo_reckoned σ (X.A 6 nd) (frm σ F).val.toInt32 σ.2.1.toInt32 = (two32 (X.A 6 nd) (frm σ F).val.toInt32 σ.2.1.toInt32, σ) := by
    unfold F_Mo_reckoned two32
    repeat' split
    all_goals rfl
  have eq : F_Mo_goesBehind n σ (σ.1 44 - 1) (frm σ F).node = mo_si (F_Mo_give σ (two32 (X.A 6 nd) (frm σ F).val.toInt32 σ.2.1.toInt32).toInt64) 44 (σ.1 44 - 1) := by
    simp only [F_Mo_goesBehind, e2, e5, if_pos k9, e1, mbind_eq, E 6 (by omega) (by omega) nd hN, hval, rk]
    simp [si_1, si_2, sl_1, sl_2, sl_3, ai_1, ai_2, ai_3, ai_4, al_1, al_2, al_3, al_4, cp_1, cp_2, cp_3, cp_4, F_Mo_give]
  rw [eq]
  have g : ∀ k, k ≠ 44 → k ≠ 51 → (mo_si (F_Mo_give σ (two32 (X.A 6 nd) (frm σ F).val.toInt32 σ.2.1.toInt32).toInt64) 44 (σ.1 44 - 1)).1 k = σ.1 k := fun k a b => by simp only [F_Mo_give, si_1, sl_1]; rw [if_neg a, if_neg b]
  refine ⟨_, rfl, ⟨by simp [si_1, si_2, sl_1, sl_2, sl_3, ai_1, ai_2, ai_3, ai_4, al_1, al_2, al_3, al_4, cp_1, cp_2, cp_3, cp_4, i44], rfs_c (fun i _ => rfl), by simp [si_1, si_2, sl_1, sl_2, sl_3, ai_1, ai_2, ai_3, ai_4, al_1, al_2, al_3, al_4, cp_1, cp_2, cp_3, cp_4, F_Mo_give], rfl, fun _ _ => rfl, g 46 (by omega) (by omega), g 47 (by omega) (by omega)⟩, ⟨fun k hk => g k (by omega) (by omega), fun _ _ => rfl, fun _ _ => rfl⟩, g 48 (by omega) (by omega), g 49 (by omega) (by omega)⟩
/-- a value comes to the first part of two or call -/
theorem r_snd (arr : Arr X σ) (f44 : (σ.1 44).toInt = F + 1) (hF : F < 17000) (hn : 12 ≤ n) (hnd : (frm σ F).node.toInt = nd) (hN : nd < X.N) (h9 : (X.A 5 nd).toInt = 9 ∨ (X.A 5 nd).toInt = 10) (hst : (frm σ F).stage = 0) : ∃ σ', F_Mo_comes n σ x1 = (1, σ') ∧ Rw σ σ' (F + 1) (⟨(frm σ F).node, 1, σ.2.1, (frm σ F).see⟩ :: rfs σ F) (X.A 10 nd) (frm σ F).see ∧ HpE σ σ' ∧ σ'.1 48 = σ.1 48 ∧ σ'.1 49 = σ.1 49 := by
  obtain ⟨i44, -, w1, -⟩ := comes_way (n := n) (x1 := x1) arr f44 hF hnd hN
  rw [w1 ⟨h9, hst⟩]
  have e44 : (σ.1 44 - 1).toNatClampNeg = F := by show (σ.1 44 - 1).toInt.toNat = F; omega
  have en1 : (frm σ F).node.toNatClampNeg = nd := by show (frm σ F).node.toInt.toNat = nd; omega
  have e10 := arr 10 (by omega) (by omega) nd hN
  obtain ⟨-, sf⟩ := seeAgain_ok (σ := mo_ai (mo_al σ 42 F σ.2.1) 41 F 1) (F := F) hF i44 hn
  have eq : F_Mo_comes_j77 n σ x1 (σ.1 44 - 1) (frm σ F).node 1 = (1, F_Mo_work (cp (mo_ai (mo_al σ 42 F σ.2.1) 41 F 1) 53 0 43 (10 * F) 0) (X.A 10 nd)) := by
    simp (decide := true) only [F_Mo_comes_j77, if_false, mbind_eq, e44, sf, en1, cp_3, ai_3, al_3, false_and, e10]
  rw [eq]
  generalize hs2 : cp (mo_ai (mo_al σ 42 F σ.2.1) 41 F 1) 53 0 43 (10 * F) 0 = σ2
  have f2 : σ2.1 = σ.1 := by rw [← hs2]; rfl
  have a2 : ∀ k, k ≠ 41 → σ2.2.2.1 k = σ.2.2.1 k := fun k hk => by rw [← hs2]; funext i; simp [si_1, si_2, sl_1, sl_2, sl_3, ai_1, ai_2, ai_3, ai_4, al_1, al_2, al_3, al_4, cp_1, cp_2, cp_3, cp_4, hk, cp_3]
  have al2 : ∀ k, k ≠ 42 → k ≠ 53 → σ2.2.2.2 k = σ.2.2.2 k := fun k h1 h2 => by rw [← hs2]; funext i; simp [si_1, si_2, sl_1, sl_2, sl_3, ai_1, ai_2, ai_3, ai_4, al_1, al_2, al_3, al_4, cp_1, cp_2, cp_3, cp_4, h1, h2, cp_4]
  have frF : frm σ2 F = ⟨(frm σ F).node, 1, σ.2.1, (frm σ F).see⟩ := by
    rw [← hs2]; unfold frm
    simp (decide := true) only [cp_3, cp_4, ai_3, ai_4, al_3, al_4, if_true, if_false, false_and, and_self]
    congr 1
  have fri : ∀ i, i < F → frm σ2 i = frm σ i := by
    intro i hi
    have hne : i ≠ F := by omega
    rw [← hs2]; unfold frm
    simp (decide := true) only [cp_3, cp_4, ai_3, ai_4, al_3, al_4, if_true, if_false, false_and, and_self, hne, and_false]
    congr 1
  have ns : nsee σ2 = (frm σ F).see := by
    rw [← hs2, nsee_cp]
    unfold frm
    apply seen_congr; intro k hk; simp [si_1, si_2, sl_1, sl_2, sl_3, ai_1, ai_2, ai_3, ai_4, al_1, al_2, al_3, al_4, cp_1, cp_2, cp_3, cp_4]
  have g : ∀ k, k ≠ 45 → k ≠ 51 → (F_Mo_work σ2 (X.A 10 nd)).1 k = σ.1 k := fun k b c => by simp only [F_Mo_work, si_1]; rw [if_neg c, if_neg b, f2]
  refine ⟨_, rfl, ⟨by rw [g 44 (by omega) (by omega)]; exact f44, ?_, by simp [si_1, si_2, sl_1, sl_2, sl_3, ai_1, ai_2, ai_3, ai_4, al_1, al_2, al_3, al_4, cp_1, cp_2, cp_3, cp_4, F_Mo_work], by simp [si_1, si_2, sl_1, sl_2, sl_3, ai_1, ai_2, ai_3, ai_4, al_1, al_2, al_3, al_4, cp_1, cp_2, cp_3, cp_4, F_Mo_work], fun k _ => ?_, fun k hk => a2 k (by omega), g 46 (by omega) (by omega), g 47 (by omega) (by omega)⟩, ⟨fun k hk => g k (by omega) (by omega), fun k hk => a2 k (by omega), fun k hk => al2 k (by omega) (by omega)⟩, g 48 (by omega) (by omega), g 49 (by omega) (by omega)⟩
  · show frm (F_Mo_work σ2 (X.A 10 nd)) F :: rfs (F_Mo_work σ2 (X.A 10 nd)) F = _
    have ef : frm (F_Mo_work σ2 (X.A 10 nd)) = frm σ2 := rfl
    rw [ef, frF, rfs_c (σ := σ) (fun i hi => by rw [ef]; exact fri i hi)]
  · have : nsee (F_Mo_work σ2 (X.A 10 nd)) = nsee σ2 := rfl
    rw [this, ns]
/-- a value comes to a mark -/
theorem r_mark (f44 : (σ.1 44).toInt = F + 1) (hF : F < 17000) (hm : (frm σ F).node = -1) : F_Mo_comes n σ x1 = (1, mo_si (mo_si σ 44 (σ.1 44 - 1)) 49 (σ.1 49 - 1)) ∧ ((mo_si (mo_si σ 44 (σ.1 44 - 1)) 49 (σ.1 49 - 1)).1 44).toInt = F := by
  have i44 : (σ.1 44 - 1).toInt = F := by ((try (simp only [vp_in, Int32.toNatClampNeg, Int32.lt_iff_toInt_lt, Int32.le_iff_toInt_le, ← Int32.toInt_inj, Int32.toInt_add, Int32.toInt_sub, Int32.toInt_mul, Int32.reduceToInt, i32_neg1, Nat.reducePow, Int.reducePow, ne_eq, ge_iff_le, gt_iff_lt] at *)) <;> (first | omega | ((simp (disch := omega) only [bm32] at *) <;> omega)))
  have e44 : (σ.1 44 - 1).toNatClampNeg = F := by show (σ.1 44 - 1).toInt.toNat = F; omega
  have hnode : σ.2.2.1 40 F = (frm σ F).node := rfl
  constructor
  · simp (decide := true) only [F_Mo_comes, e44, hnode, if_pos hm, si_1, if_false]
  · simp [si_1, si_2, sl_1, sl_2, sl_3, ai_1, ai_2, ai_3, ai_4, al_1, al_2, al_3, al_4, cp_1, cp_2, cp_3, cp_4, i44]
end
end
