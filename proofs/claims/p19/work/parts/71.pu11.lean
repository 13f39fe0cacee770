-- pure rows: AR AS AT AU
section
/-! pure rows: an effect is performed -/
theorem clauseOf_7_ok {X : Cx} (hX : X.Ok) {σ : mSt} (arr : Arr X σ) {nd : Nat} (hnd : nd < X.N) (h8 : (X.A 5 nd).toInt = 8) {x1 x2 : Int32} (hx1 : x1.toInt = nd) : ∀ (m n j : Nat) (x3 : Int32), x3.toInt = j → (X.A 14 nd).toInt.toNat ≤ j → j + m = (X.A 14 nd).toInt.toNat + (X.A 15 nd).toInt.toNat → m < n →
    S_Mo_clauseOf_7 n σ x1 x2 x3 ∧ (F_Mo_clauseOf_7 n σ x1 x2 x3).2 = σ ∧ ((F_Mo_clauseOf_7 n σ x1 x2 x3).1 = -1 ∨ ∃ qq : Nat, (F_Mo_clauseOf_7 n σ x1 x2 x3).1.toInt = qq ∧ (X.A 14 nd).toInt.toNat ≤ qq ∧ qq < (X.A 14 nd).toInt.toNat + (X.A 15 nd).toInt.toNat ∧ X.A 16 qq = x2) := by
  intro m
  have cf := hX.cf nd hnd h8
  have hC' := hX.hC
  have hN := hX.hN
  have e1 : x1.toNatClampNeg = nd := by show x1.toInt.toNat = nd; omega
  have v1 : vp_in x1 200 := by clear arr; ((try (simp only [vp_in, Int32.toNatClampNeg, Int32.lt_iff_toInt_lt, Int32.le_iff_toInt_le, ← Int32.toInt_inj, Int32.toInt_add, Int32.toInt_sub, Int32.toInt_mul, Int32.reduceToInt, i32_neg1, Nat.reducePow, Int.reducePow, ne_eq, ge_iff_le, gt_iff_lt] at *)) <;> (first | omega | ((simp (disch := omega) only [bm32] at *) <;> omega)))
  have E : ∀ k, 5 ≤ k → k ≤ 19 → ∀ i, i < bnd X k → σ.2.2.1 k i = X.A k i := arr
  have hC := hX.hC
  induction m with
  | zero =>
    intro n j x3 hj h14 hm hn
    obtain ⟨n, rfl⟩ : ∃ k, n = k + 1 := ⟨n - 1, by omega⟩
    have hle : X.A 14 nd + X.A 15 nd ≤ x3 := by clear arr E; ((try (simp only [vp_in, Int32.toNatClampNeg, Int32.lt_iff_toInt_lt, Int32.le_iff_toInt_le, ← Int32.toInt_inj, Int32.toInt_add, Int32.toInt_sub, Int32.toInt_mul, Int32.reduceToInt, i32_neg1, Nat.reducePow, Int.reducePow, ne_eq, ge_iff_le, gt_iff_lt] at *)) <;> (first | omega | ((simp (disch := omega) only [bm32] at *) <;> omega)))
    simp only [S_Mo_clauseOf_7, F_Mo_clauseOf_7, e1, E 14 (by omega) (by omega) nd hnd, E 15 (by omega) (by omega) nd hnd, if_pos hle]
    exact ⟨⟨v1, v1, trivial⟩, trivial, Or.inl trivial⟩
  | succ m ih =>
    intro n j x3 hj h14 hm hn
    obtain ⟨n, rfl⟩ : ∃ k, n = k + 1 := ⟨n - 1, by omega⟩
    have hle : ¬ X.A 14 nd + X.A 15 nd ≤ x3 := by clear arr E ih; ((try (simp only [vp_in, Int32.toNatClampNeg, Int32.lt_iff_toInt_lt, Int32.le_iff_toInt_le, ← Int32.toInt_inj, Int32.toInt_add, Int32.toInt_sub, Int32.toInt_mul, Int32.reduceToInt, i32_neg1, Nat.reducePow, Int.reducePow, ne_eq, ge_iff_le, gt_iff_lt] at *)) <;> (first | omega | ((simp (disch := omega) only [bm32] at *) <;> omega)))
    have e3 : x3.toNatClampNeg = j := by show x3.toInt.toNat = j; omega
    have v3 : vp_in x3 40 := by clear arr E ih; ((try (simp only [vp_in, Int32.toNatClampNeg, Int32.lt_iff_toInt_lt, Int32.le_iff_toInt_le, ← Int32.toInt_inj, Int32.toInt_add, Int32.toInt_sub, Int32.toInt_mul, Int32.reduceToInt, i32_neg1, Nat.reducePow, Int.reducePow, ne_eq, ge_iff_le, gt_iff_lt] at *)) <;> (first | omega | ((simp (disch := omega) only [bm32] at *) <;> omega)))
    simp only [S_Mo_clauseOf_7, F_Mo_clauseOf_7, e1, E 14 (by omega) (by omega) nd hnd, E 15 (by omega) (by omega) nd hnd, if_neg hle, e3, E 16 (by omega) (by omega) j (show j < X.C by omega)]
    by_cases he : X.A 16 j = x2
    · simp only [if_pos he]
      exact ⟨⟨v1, v1, v3, trivial⟩, trivial, Or.inr ⟨j, hj, h14, by omega, he⟩⟩
    · simp only [if_neg he]
      have i3 : (x3 + 1).toInt = (j + 1 : Nat) := by clear arr E ih; ((try (simp only [vp_in, Int32.toNatClampNeg, Int32.lt_iff_toInt_lt, Int32.le_iff_toInt_le, ← Int32.toInt_inj, Int32.toInt_add, Int32.toInt_sub, Int32.toInt_mul, Int32.reduceToInt, i32_neg1, Nat.reducePow, Int.reducePow, ne_eq, ge_iff_le, gt_iff_lt] at *)) <;> (first | omega | ((simp (disch := omega) only [bm32] at *) <;> omega)))
      obtain ⟨s, f, o⟩ := ih n (j + 1) (x3 + 1) i3 (by omega) (by omega) (by omega)
      exact ⟨⟨v1, v1, v3, s⟩, f, o⟩
theorem clauseOf_ok {X : Cx} (hX : X.Ok) {σ : mSt} (arr : Arr X σ) {nd : Nat} (hnd : nd < X.N) (h8 : (X.A 5 nd).toInt = 8) {x1 x2 : Int32} (hx1 : x1.toInt = nd) {n : Nat} (hn : 50 ≤ n) :
    S_Mo_clauseOf n σ x1 x2 ∧ (F_Mo_clauseOf n σ x1 x2).2 = σ ∧ ((F_Mo_clauseOf n σ x1 x2).1 = -1 ∨ ∃ qq : Nat, (F_Mo_clauseOf n σ x1 x2).1.toInt = qq ∧ (X.A 14 nd).toInt.toNat ≤ qq ∧ qq < (X.A 14 nd).toInt.toNat + (X.A 15 nd).toInt.toNat ∧ X.A 16 qq = x2) := by
  have cf := hX.cf nd hnd h8
  have hC' := hX.hC
  have hN := hX.hN
  have e1 : x1.toNatClampNeg = nd := by show x1.toInt.toNat = nd; omega
  have v1 : vp_in x1 200 := by clear arr; ((try (simp only [vp_in, Int32.toNatClampNeg, Int32.lt_iff_toInt_lt, Int32.le_iff_toInt_le, ← Int32.toInt_inj, Int32.toInt_add, Int32.toInt_sub, Int32.toInt_mul, Int32.reduceToInt, i32_neg1, Nat.reducePow, Int.reducePow, ne_eq, ge_iff_le, gt_iff_lt] at *)) <;> (first | omega | ((simp (disch := omega) only [bm32] at *) <;> omega)))
  have e14 : σ.2.2.1 14 nd = X.A 14 nd := arr 14 (by omega) (by omega) nd hnd
  simp only [S_Mo_clauseOf, F_Mo_clauseOf, e1, e14]
  obtain ⟨s, f, o⟩ := clauseOf_7_ok hX arr hnd h8 (x2 := x2) hx1 (X.A 15 nd).toInt.toNat n (X.A 14 nd).toInt.toNat (X.A 14 nd) (Int.toNat_of_nonneg cf.1).symm (Nat.le_refl _) rfl (by omega)
  exact ⟨⟨v1, s⟩, f, o⟩
def cnt (A : Nat → Nat → Int32) (get : Nat → Fr) (lo : Nat) : Nat → Nat
  | 0 => 0
  | m + 1 => cnt A get lo m + ctd A (get (lo + m)).node
theorem cnt_left {A : Nat → Nat → Int32} {get : Nat → Fr} : ∀ {m lo : Nat}, cnt A get lo (m + 1) = ctd A (get lo).node + cnt A get (lo + 1) m := by
  intro m
  induction m with
  | zero => intro lo; simp [si_1, si_2, sl_1, sl_2, sl_3, ai_1, ai_2, ai_3, ai_4, al_1, al_2, al_3, al_4, cp_1, cp_2, cp_3, cp_4, cnt]
  | succ m ih =>
    intro lo
    have : cnt A get lo (m + 1 + 1) = cnt A get lo (m + 1) + ctd A (get (lo + (m + 1))).node := rfl
    rw [this, ih]
    have : cnt A get (lo + 1) (m + 1) = cnt A get (lo + 1) m + ctd A (get (lo + 1 + m)).node := rfl
    rw [this, show lo + (m + 1) = lo + 1 + m by omega]; omega
theorem Seg.cntx {X : Cx} {S : Sto} {get : Nat → Fr} {lo m t u c w : Nat} {d : Int} (h : Seg X S get lo m t u c d w) : c = cnt X.A get lo m := by
  induction h using Seg.ind with
  | nil _ => rfl
  | cons a f k ih => simp only [cnt, ← ih]
theorem cnt_le {A : Nat → Nat → Int32} {get : Nat → Fr} {lo : Nat} : ∀ {m : Nat}, cnt A get lo m ≤ m
  | 0 => Nat.le_refl _
  | m + 1 => by have := cnt_le (A := A) (get := get) (lo := lo) (m := m); have := ctd_le A (get (lo + m)).node; simp only [cnt]; omega
/-- the handler that is looked for -/
def Found (X : Cx) (σ : mSt) (F : Nat) (x1 : Int32) (w : mSt × Int32 × Int32 × Int32 × Int32) : Prop :=
  w.1 = σ ∧ w.2.1 = x1 ∧ (w.2.2.2.2 = -1 ∨ ∃ h many qq nd : Nat, h < F ∧ w.2.2.1.toInt = h ∧ w.2.2.2.1.toInt = many ∧ many = cnt X.A (frm σ) h (F - h) ∧ w.2.2.2.2.toInt = qq ∧ (frm σ h).node.toInt = nd ∧ nd < X.N ∧ (X.A 5 nd).toInt = 8 ∧ (X.A 14 nd).toInt.toNat ≤ qq ∧ qq < (X.A 14 nd).toInt.toNat + (X.A 15 nd).toInt.toNat ∧ X.A 16 qq = x1)
theorem performs_12_ok {X : Cx} (hX : X.Ok) {σ : mSt} (arr : Arr X σ) {F : Nat} (hF : F ≤ 17000) (nodes : ∀ i, i < F → (frm σ i).node = -1 ∨ ∃ nd : Nat, (frm σ i).node.toInt = nd ∧ nd < X.N) {x1 : Int32} : ∀ (j n : Nat) (x2 x3 : Int32), j ≤ F → x2.toInt = j - 1 → x3.toInt = cnt X.A (frm σ) j (F - j) → j + 60 < n →
    S_Mo_performs_12 n σ x1 x2 x3 (-1) ∧ Found X σ F x1 (F_Mo_performs_12 n σ x1 x2 x3 (-1)) := by
  intro j
  have hN := hX.hN
  have E : ∀ k, 5 ≤ k → k ≤ 19 → ∀ i, i < bnd X k → σ.2.2.1 k i = X.A k i := arr
  have hC := hX.hC
  induction j with
  | zero =>
    intro n x2 x3 hj h2 h3 hn
    obtain ⟨n, rfl⟩ : ∃ k, n = k + 1 := ⟨n - 1, by omega⟩
    have hlt : x2 < 0 := by clear arr E nodes h3; ((try (simp only [vp_in, Int32.toNatClampNeg, Int32.lt_iff_toInt_lt, Int32.le_iff_toInt_le, ← Int32.toInt_inj, Int32.toInt_add, Int32.toInt_sub, Int32.toInt_mul, Int32.reduceToInt, i32_neg1, Nat.reducePow, Int.reducePow, ne_eq, ge_iff_le, gt_iff_lt] at *)) <;> (first | omega | ((simp (disch := omega) only [bm32] at *) <;> omega)))
    simp only [S_Mo_performs_12, F_Mo_performs_12, if_pos hlt]
    exact ⟨trivial, rfl, rfl, Or.inl rfl⟩
  | succ h ih =>
    intro n x2 x3 hj h2 h3 hn
    obtain ⟨n, rfl⟩ : ∃ k, n = k + 1 := ⟨n - 1, by omega⟩
    have hlt : ¬ x2 < 0 := by clear arr E nodes h3 ih; ((try (simp only [vp_in, Int32.toNatClampNeg, Int32.lt_iff_toInt_lt, Int32.le_iff_toInt_le, ← Int32.toInt_inj, Int32.toInt_add, Int32.toInt_sub, Int32.toInt_mul, Int32.reduceToInt, i32_neg1, Nat.reducePow, Int.reducePow, ne_eq, ge_iff_le, gt_iff_lt] at *)) <;> (first | omega | ((simp (disch := omega) only [bm32] at *) <;> omega)))
    have e2 : x2.toNatClampNeg = h := by show x2.toInt.toNat = h; omega
    have v2 : vp_in x2 17000 := by clear arr E nodes h3 ih; ((try (simp only [vp_in, Int32.toNatClampNeg, Int32.lt_iff_toInt_lt, Int32.le_iff_toInt_le, ← Int32.toInt_inj, Int32.toInt_add, Int32.toInt_sub, Int32.toInt_mul, Int32.reduceToInt, i32_neg1, Nat.reducePow, Int.reducePow, ne_eq, ge_iff_le, gt_iff_lt] at *)) <;> (first | omega | ((simp (disch := omega) only [bm32] at *) <;> omega)))
    have i2 : (x2 + (-1)).toInt = h - 1 := by clear arr E nodes h3 ih; ((try (simp only [vp_in, Int32.toNatClampNeg, Int32.lt_iff_toInt_lt, Int32.le_iff_toInt_le, ← Int32.toInt_inj, Int32.toInt_add, Int32.toInt_sub, Int32.toInt_mul, Int32.reduceToInt, i32_neg1, Nat.reducePow, Int.reducePow, ne_eq, ge_iff_le, gt_iff_lt] at *)) <;> (first | omega | ((simp (disch := omega) only [bm32] at *) <;> omega)))
    have hcl := cnt_le (A := X.A) (get := frm σ) (lo := h + 1) (m := F - (h + 1))
    have i3 : (x3 + 1).toInt = x3.toInt + 1 := by clear arr E nodes ih; ((try (simp only [vp_in, Int32.toNatClampNeg, Int32.lt_iff_toInt_lt, Int32.le_iff_toInt_le, ← Int32.toInt_inj, Int32.toInt_add, Int32.toInt_sub, Int32.toInt_mul, Int32.reduceToInt, i32_neg1, Nat.reducePow, Int.reducePow, ne_eq, ge_iff_le, gt_iff_lt] at *)) <;> (first | omega | ((simp (disch := omega) only [bm32] at *) <;> omega)))
    have cl : cnt X.A (frm σ) h (F - h) = ctd X.A (frm σ h).node + cnt X.A (frm σ) (h + 1) (F - (h + 1)) := by
      rw [show F - h = (F - (h + 1)) + 1 by omega]; exact cnt_left
    have hnode : σ.2.2.1 40 h = (frm σ h).node := rfl
    have sc : S_Mo_counted σ x2 ∧ F_Mo_counted σ x2 = (if ctd X.A (frm σ h).node = 1 then 1 else 0, σ) := by
      simp only [S_Mo_counted, F_Mo_counted, e2, hnode]
      rcases nodes h (by omega) with hm | ⟨nd, hnd, hndN⟩
      · simp only [if_pos hm, ctd, if_true]; exact ⟨⟨v2, trivial⟩, trivial⟩
      · obtain ⟨_, _, ne, en1, _⟩ := ctd_of (X := X) hnd
        have v40 : vp_in (frm σ h).node 200 := by clear arr E nodes ih h3; ((try (simp only [vp_in, Int32.toNatClampNeg, Int32.lt_iff_toInt_lt, Int32.le_iff_toInt_le, ← Int32.toInt_inj, Int32.toInt_add, Int32.toInt_sub, Int32.toInt_mul, Int32.reduceToInt, i32_neg1, Nat.reducePow, Int.reducePow, ne_eq, ge_iff_le, gt_iff_lt] at *)) <;> (first | omega | ((simp (disch := omega) only [bm32] at *) <;> omega)))
        simp only [if_neg ne, en1, E 5 (by omega) (by omega) nd hndN, ctd]
        by_cases h8 : X.A 5 nd = 8
        · simp only [if_pos h8, if_true]; exact ⟨⟨v2, v2, v40, trivial⟩, trivial⟩
        · simp (decide := true) only [if_neg h8, if_false]; exact ⟨⟨v2, v2, v40, trivial⟩, trivial⟩
    -- the count, brought up
    have i3' : (if ctd X.A (frm σ h).node = 1 then x3 + 1 else x3).toInt = cnt X.A (frm σ) h (F - h) := by
      rw [cl]
      have := ctd_le X.A (frm σ h).node
      by_cases hc : ctd X.A (frm σ h).node = 1
      · rw [if_pos hc, hc]; omega
      · rw [if_neg hc]; omega
    obtain ⟨s, f⟩ := ih n (x2 + (-1)) (if ctd X.A (frm σ h).node = 1 then x3 + 1 else x3) (by omega) i2 i3' (by omega)
    simp only [S_Mo_performs_12, F_Mo_performs_12, if_neg hlt, if_true, mbind_eq, sc.2, e2, hnode]
    rcases nodes h (by omega) with hm | ⟨nd, hnd, hndN⟩
    · have hc : ctd X.A (frm σ h).node = 1 := by rw [hm]; rfl
      rw [if_pos hc] at s f
      simp (decide := true) only [if_pos hc, if_false, if_pos hm]
      exact ⟨⟨sc.1, v2, s⟩, f⟩
    · obtain ⟨ct, _, ne, en1, _⟩ := ctd_of (X := X) hnd
      have v40 : vp_in (frm σ h).node 200 := by clear arr E nodes ih h3 sc i3' s f; ((try (simp only [vp_in, Int32.toNatClampNeg, Int32.lt_iff_toInt_lt, Int32.le_iff_toInt_le, ← Int32.toInt_inj, Int32.toInt_add, Int32.toInt_sub, Int32.toInt_mul, Int32.reduceToInt, i32_neg1, Nat.reducePow, Int.reducePow, ne_eq, ge_iff_le, gt_iff_lt] at *)) <;> (first | omega | ((simp (disch := omega) only [bm32] at *) <;> omega)))
      by_cases h8 : X.A 5 nd = 8
      · have h8' : (X.A 5 nd).toInt = 8 := by rw [h8]; rfl
        have hc : ctd X.A (frm σ h).node = 1 := by rw [ct, if_pos h8']
        rw [if_pos hc] at s f i3'
        simp (decide := true) only [if_pos hc, if_false, if_neg ne, en1, E 5 (by omega) (by omega) nd hndN, if_pos h8]
        obtain ⟨s2, f2, o⟩ := clauseOf_ok hX arr hndN h8' (x1 := (frm σ h).node) (x2 := x1) hnd (n := n) (by omega)
        generalize F_Mo_clauseOf n σ (frm σ h).node x1 = w at *
        obtain ⟨wq, wσ⟩ := w
        simp only at f2 o ⊢
        subst f2
        rcases o with o | ⟨qq, o1, o2, o3, o4⟩
        · subst o
          simp only [if_true]
          exact ⟨⟨sc.1, v2, v2, v40, v2, s2, s⟩, f⟩
        · have hq : ¬ wq = -1 := by intro hh; rw [hh] at o1; simp only [i32_neg1] at o1; omega
          simp only [if_neg hq]
          obtain ⟨n, rfl⟩ : ∃ k, n = k + 1 := ⟨n - 1, by omega⟩
          simp only [S_Mo_performs_12, F_Mo_performs_12, if_neg hlt, if_neg hq]
          exact ⟨⟨sc.1, v2, v2, v40, v2, s2, trivial⟩, rfl, rfl, Or.inr ⟨h, _, qq, nd, by omega, by simp only; omega, i3', rfl, o1, hnd, hndN, h8', o2, o3, o4⟩⟩
      · have h8' : ¬ (X.A 5 nd).toInt = 8 := by intro hh; apply h8; clear arr E nodes ih h3 sc i3' s f; ((try (simp only [vp_in, Int32.toNatClampNeg, Int32.lt_iff_toInt_lt, Int32.le_iff_toInt_le, ← Int32.toInt_inj, Int32.toInt_add, Int32.toInt_sub, Int32.toInt_mul, Int32.reduceToInt, i32_neg1, Nat.reducePow, Int.reducePow, ne_eq, ge_iff_le, gt_iff_lt] at *)) <;> (first | omega | ((simp (disch := omega) only [bm32] at *) <;> omega)))
        have hc : ¬ ctd X.A (frm σ h).node = 1 := by rw [ct, if_neg h8']; omega
        rw [if_neg hc] at s f
        simp (decide := true) only [if_neg hc, if_true, if_neg ne, en1, E 5 (by omega) (by omega) nd hndN, if_neg h8]
        exact ⟨⟨sc.1, v2, v2, v40, s⟩, f⟩
end
section
theorem FrameOk.out {X : Cx} {S : Sto} {f : Fr} {t u u' : Nat} (hs : Sbt X.P u u') (h : FrameOk X S f t u) : FrameOk X S f t u' := by
  cases h using FrameOk.cs with
  | mark a b => exact .mark a (b.trans hs)
  | lett n g t0 u0 a b c d e f g => exact .lett n _ t0 u0 a b c d e f (g.trans hs)
  | ite n g u0 a b c d e f g => exact .ite n _ u0 a b c d e f (g.trans hs)
  | han n g t0 u0 ks us a b c d e f g h => exact .han n _ t0 u0 ks us a b c d e f g (h.trans hs)
  | two0 n g a b c d e f g => exact .two0 n _ a b c d e f (g.trans hs)
  | two1 n a b c d e => exact .two1 n a b c d (e.trans hs)
  | cal0 n g f0 a r t2 a' b c d e f g h i j => exact .cal0 n _ f0 a r t2 a' b c d e f g h i (j.trans hs)
  | cal1 n f0 a r a' b c d e f g h => exact .cal1 n f0 a r a' b c d e f g (h.trans hs)
  | per n a b c d e => exact .per n a b c d (e.trans hs)
/-- the lowest frame of a run, and that what it gives may be another -/
theorem Seg.bottom {X : Cx} {S : Sto} {get : Nat → Fr} {lo : Nat} : ∀ {m t v c w : Nat} {d : Int}, Seg X S get lo (m + 1) t v c d w → ∃ v2, FrameOk X S (get lo) v2 v ∧ ∀ u0, FrameOk X S (get lo) v2 u0 → Seg X S get lo (m + 1) t u0 c d w := by
  intro m
  induction m with
  | zero =>
    intro t v c w d h
    obtain ⟨v', c', d', w', h1, h2, h3, h4, h5, h6⟩ := h.inv
    cases h1 using Seg.cs with
    | nil hs =>
      rw [Nat.add_zero] at h2
      refine ⟨t, h2.out hs, fun u0 hu => ?_⟩
      rw [h4, h5, h6]
      exact .cons (.nil .rfl') (by rw [Nat.add_zero]; exact hu) h3
  | succ m ih =>
    intro t v c w d h
    obtain ⟨v', c', d', w', h1, h2, h3, h4, h5, h6⟩ := h.inv
    obtain ⟨v2, g1, g2⟩ := ih h1
    refine ⟨v2, g1, fun u0 hu => ?_⟩
    rw [h4, h5, h6]
    exact .cons (g2 u0 hu) h2 h3
/-- what keep leaves -/
def KP (σ σ' : mSt) (nk K h m : Nat) (x : Int32) : Prop := (∀ k, k ≠ 61 → k ≠ 62 → σ'.1 k = σ.1 k) ∧ ((σ'.1 61).toInt = nk + 1) ∧ ((σ'.1 62).toInt = K + m) ∧ (σ'.2.1 = σ.2.1) ∧ (∀ k, k < 57 → σ'.2.2.1 k = σ.2.2.1 k) ∧ (∀ i, (σ'.2.2.1 57 i).toInt = if i = nk then (K : Int) else (σ.2.2.1 57 i).toInt) ∧ (∀ i, (σ'.2.2.1 58 i).toInt = if i = nk then (m : Int) else (σ.2.2.1 58 i).toInt) ∧ (∀ i, σ'.2.2.1 59 i = if i = nk then x else σ.2.2.1 59 i) ∧ (∀ k, k ≠ 65 → k ≠ 66 → σ'.2.2.2 k = σ.2.2.2 k) ∧ (∀ i, kfr σ' i = if K ≤ i ∧ i < K + m then frm σ (h + (i - K)) else kfr σ i)
theorem KP.f {σ σ' : mSt} {nk K h m : Nat} {x : Int32} (self : KP σ σ' nk K h m x) : ∀ k, k ≠ 61 → k ≠ 62 → σ'.1 k = σ.1 k := self.1
theorem KP.f61 {σ σ' : mSt} {nk K h m : Nat} {x : Int32} (self : KP σ σ' nk K h m x) : (σ'.1 61).toInt = nk + 1 := self.2.1
theorem KP.f62 {σ σ' : mSt} {nk K h m : Nat} {x : Int32} (self : KP σ σ' nk K h m x) : (σ'.1 62).toInt = K + m := self.2.2.1
theorem KP.l {σ σ' : mSt} {nk K h m : Nat} {x : Int32} (self : KP σ σ' nk K h m x) : σ'.2.1 = σ.2.1 := self.2.2.2.1
theorem KP.a {σ σ' : mSt} {nk K h m : Nat} {x : Int32} (self : KP σ σ' nk K h m x) : ∀ k, k < 57 → σ'.2.2.1 k = σ.2.2.1 k := self.2.2.2.2.1
theorem KP.a57 {σ σ' : mSt} {nk K h m : Nat} {x : Int32} (self : KP σ σ' nk K h m x) : ∀ i, (σ'.2.2.1 57 i).toInt = if i = nk then (K : Int) else (σ.2.2.1 57 i).toInt := self.2.2.2.2.2.1
theorem KP.a58 {σ σ' : mSt} {nk K h m : Nat} {x : Int32} (self : KP σ σ' nk K h m x) : ∀ i, (σ'.2.2.1 58 i).toInt = if i = nk then (m : Int) else (σ.2.2.1 58 i).toInt := self.2.2.2.2.2.2.1
theorem KP.a59 {σ σ' : mSt} {nk K h m : Nat} {x : Int32} (self : KP σ σ' nk K h m x) : ∀ i, σ'.2.2.1 59 i = if i = nk then x else σ.2.2.1 59 i := self.2.2.2.2.2.2.2.1
theorem KP.al {σ σ' : mSt} {nk K h m : Nat} {x : Int32} (self : KP σ σ' nk K h m x) : ∀ k, k ≠ 65 → k ≠ 66 → σ'.2.2.2 k = σ.2.2.2 k := self.2.2.2.2.2.2.2.2.1
theorem KP.kf {σ σ' : mSt} {nk K h m : Nat} {x : Int32} (self : KP σ σ' nk K h m x) : ∀ i, kfr σ' i = if K ≤ i ∧ i < K + m then frm σ (h + (i - K)) else kfr σ i := self.2.2.2.2.2.2.2.2.2
theorem keep_ok {σ : mSt} {nk K h m : Nat} (h61 : (σ.1 61).toInt = nk) (hnk : nk < 1000) (h62 : (σ.1 62).toInt = K) (hK : K + m ≤ 42000) {x1 x2 x3 : Int32} (hx1 : x1.toInt = h) (hx2 : x2.toInt = h + m) (hm : h + m ≤ 17000) {n : Nat} (hn : m + 20 < n) : S_Mo_keep n σ x1 x2 x3 ∧ KP σ (F_Mo_keep n σ x1 x2 x3) nk K h m x3 := by
  have e61 : (σ.1 61).toNatClampNeg = nk := by show (σ.1 61).toInt.toNat = nk; omega
  have v61 : vp_in (σ.1 61) 1000 := by ((try (simp only [vp_in, Int32.toNatClampNeg, Int32.lt_iff_toInt_lt, Int32.le_iff_toInt_le, ← Int32.toInt_inj, Int32.toInt_add, Int32.toInt_sub, Int32.toInt_mul, Int32.reduceToInt, i32_neg1, Nat.reducePow, Int.reducePow, ne_eq, ge_iff_le, gt_iff_lt] at *)) <;> (first | omega | ((simp (disch := omega) only [bm32] at *) <;> omega)))
  have i61 : (σ.1 61 + 1).toInt = nk + 1 := by ((try (simp only [vp_in, Int32.toNatClampNeg, Int32.lt_iff_toInt_lt, Int32.le_iff_toInt_le, ← Int32.toInt_inj, Int32.toInt_add, Int32.toInt_sub, Int32.toInt_mul, Int32.reduceToInt, i32_neg1, Nat.reducePow, Int.reducePow, ne_eq, ge_iff_le, gt_iff_lt] at *)) <;> (first | omega | ((simp (disch := omega) only [bm32] at *) <;> omega)))
  have i58 : (x2 - x1).toInt = m := by ((try (simp only [vp_in, Int32.toNatClampNeg, Int32.lt_iff_toInt_lt, Int32.le_iff_toInt_le, ← Int32.toInt_inj, Int32.toInt_add, Int32.toInt_sub, Int32.toInt_mul, Int32.reduceToInt, i32_neg1, Nat.reducePow, Int.reducePow, ne_eq, ge_iff_le, gt_iff_lt] at *)) <;> (first | omega | ((simp (disch := omega) only [bm32] at *) <;> omega)))
  simp only [S_Mo_keep, F_Mo_keep, mbind_eq, ai_1, e61]
  obtain ⟨s, k⟩ := keep_58_ok (x2 := x2) m n K h (mo_si (mo_ai (mo_ai (mo_ai (mo_ai σ 57 nk (σ.1 62)) 58 nk (x2 - x1)) 59 nk x3) 60 nk 0) 61 (σ.1 61 + 1)) x1 (by simp [si_1, si_2, sl_1, sl_2, sl_3, ai_1, ai_2, ai_3, ai_4, al_1, al_2, al_3, al_4, cp_1, cp_2, cp_3, cp_4, h62]) hK hx1 hx2 hm hn
  generalize F_Mo_keep_58 n (mo_si (mo_ai (mo_ai (mo_ai (mo_ai σ 57 nk (σ.1 62)) 58 nk (x2 - x1)) 59 nk x3) 60 nk 0) 61 (σ.1 61 + 1)) x2 x1 = σ2 at *
  refine ⟨⟨v61, v61, v61, v61, s, trivial⟩, fun j h1 h2 => ?_, ?_, k.f62, k.l, fun j hj => ?_, fun i => ?_, fun i => ?_, fun i => ?_, fun j h1 h2 => ?_, fun i => ?_⟩
  · rw [k.f j h2]; simp [si_1, si_2, sl_1, sl_2, sl_3, ai_1, ai_2, ai_3, ai_4, al_1, al_2, al_3, al_4, cp_1, cp_2, cp_3, cp_4, h1]
  · rw [k.f 61 (by omega)]; simp [si_1, si_2, sl_1, sl_2, sl_3, ai_1, ai_2, ai_3, ai_4, al_1, al_2, al_3, al_4, cp_1, cp_2, cp_3, cp_4, i61]
  · rw [k.a j (by omega) (by omega)]; funext i; simp only [si_2, ai_3]; rw [if_neg (by omega), if_neg (by omega), if_neg (by omega), if_neg (by omega)]
  · rw [k.a 57 (by omega) (by omega)]; simp only [si_2, ai_3]
    rw [if_neg (by omega), if_neg (by omega), if_neg (by omega)]
    by_cases hi : i = nk
    · rw [if_pos ⟨trivial, hi⟩, if_pos hi]; exact h62
    · rw [if_neg (by omega), if_neg hi]
  · rw [k.a 58 (by omega) (by omega)]; simp only [si_2, ai_3]
    rw [if_neg (by omega), if_neg (by omega)]
    by_cases hi : i = nk
    · rw [if_pos ⟨trivial, hi⟩, if_pos hi]; exact i58
    · rw [if_neg (by omega), if_neg (by omega), if_neg hi]
  · rw [k.a 59 (by omega) (by omega)]; simp only [si_2, ai_3]
    rw [if_neg (by omega)]
    by_cases hi : i = nk
    · rw [if_pos ⟨trivial, hi⟩, if_pos hi]
    · rw [if_neg (by omega), if_neg (by omega), if_neg (by omega), if_neg hi]
  · rw [k.al j h1 h2]; rfl
  · rw [k.kf i]
    have e1 : frm (mo_si (mo_ai (mo_ai (mo_ai (mo_ai σ 57 nk (σ.1 62)) 58 nk (x2 - x1)) 59 nk x3) 60 nk 0) 61 (σ.1 61 + 1)) = frm σ := frm_of (fun j hj => by funext i; simp only [si_2, ai_3]; rw [if_neg (by omega), if_neg (by omega), if_neg (by omega), if_neg (by omega)]) (fun _ _ => rfl)
    have e2 : kfr (mo_si (mo_ai (mo_ai (mo_ai (mo_ai σ 57 nk (σ.1 62)) 58 nk (x2 - x1)) 59 nk x3) 60 nk 0) 61 (σ.1 61 + 1)) = kfr σ := kfr_of (fun j hj => by funext i; simp only [si_2, ai_3]; rw [if_neg (by omega), if_neg (by omega), if_neg (by omega), if_neg (by omega)]) (fun _ _ => rfl)
    rw [e1, e2]
theorem performs_ok {X : Cx} (hX : X.Ok) {S : Sto} {σ : mSt} {K q F c w t u v c' w' : Nat} {d d' : Int} (r : RunJ X S σ K q (F + 1) c w t u d) (tp : Top X S σ F v u c' t w' d' c w) (hv : V X.P S σ.2.1 t) (hct : ctd X.A (frm σ F).node = 0) {x1 : Int32} (h1 : Sbt X.P t (X.tk x1.toInt.toNat)) (h2 : Sbt X.P (X.gv x1.toInt.toNat) v) {n : Nat} (hn : 42100 ≤ n) :
    S_Mo_performs n σ x1 ∧ CallR X σ (F_Mo_performs n σ x1) := by
  have f44 := r.f44
  have f49 := r.f49
  have c400 := r.c400
  have hF := r.F hX
  have th := r.hp.th
  have hc := tp.hc
  have hkK := r.hp.hk
  rw [hct] at hc
  have i44 : (σ.1 44 - 2).toInt = F - 1 := by clear r tp hv; ((try (simp only [vp_in, Int32.toNatClampNeg, Int32.lt_iff_toInt_lt, Int32.le_iff_toInt_le, ← Int32.toInt_inj, Int32.toInt_add, Int32.toInt_sub, Int32.toInt_mul, Int32.reduceToInt, i32_neg1, Nat.reducePow, Int.reducePow, ne_eq, ge_iff_le, gt_iff_lt] at *)) <;> (first | omega | ((simp (disch := omega) only [bm32] at *) <;> omega)))
  obtain ⟨s1, fd⟩ := performs_12_ok hX r.arr (F := F) (by omega) (fun i hi => by
    obtain ⟨v, v', fo⟩ := tp.seg.at i hi
    rw [Nat.zero_add] at fo
    rcases fo.node with g | ⟨nd, g, g', _⟩
    · exact Or.inl g
    · exact Or.inr ⟨nd, g, g'.1⟩) (x1 := x1) F n (σ.1 44 - 2) 0 (Nat.le_refl _) i44 (by rw [Nat.sub_self]; rfl) (by omega)
  simp only [S_Mo_performs, F_Mo_performs, mbind_eq]
  generalize F_Mo_performs_12 n σ x1 (σ.1 44 - 2) 0 (-1) = fw at *
  obtain ⟨σf, y1, y2, y3, y4⟩ := fw
  obtain ⟨g1, g2, o⟩ := fd
  simp only at g1 g2 o ⊢
  subst g1 g2
  rcases o with o | ⟨h, many, qq, nd, hh, ho2, ho3, hmany, ho4, hnd, hndN, h8, hq1, hq2, hq3⟩
  · subst o
    simp only [S_Mo_performs_j84, F_Mo_performs_j84, if_true]
    exact ⟨⟨s1, trivial⟩, (RFr.rfl'.si (by omega)).si (by omega), by simp [si_1, si_2, sl_1, sl_2, sl_3, ai_1, ai_2, ai_3, ai_4, al_1, al_2, al_3, al_4, cp_1, cp_2, cp_3, cp_4], fun h => by simp [si_1, si_2, sl_1, sl_2, sl_3, ai_1, ai_2, ai_3, ai_4, al_1, al_2, al_3, al_4, cp_1, cp_2, cp_3, cp_4] at h⟩
  have hq : ¬ y4 = -1 := by intro hh; rw [hh] at ho4; simp only [i32_neg1] at ho4; omega
  simp only [S_Mo_performs_j84, F_Mo_performs_j84, if_neg hq]
  have hcl := cnt_le (A := X.A) (get := frm σf) (lo := h) (m := F - h)
  by_cases h1000 : σf.1 48 + 1 + y3 ≤ 1000
  rotate_left
  · simp only [if_neg h1000]
    exact ⟨⟨s1, trivial⟩, RFr.rfl'.si (by omega), by simp [si_1, si_2, sl_1, sl_2, sl_3, ai_1, ai_2, ai_3, ai_4, al_1, al_2, al_3, al_4, cp_1, cp_2, cp_3, cp_4], fun h => by simp [si_1, si_2, sl_1, sl_2, sl_3, ai_1, ai_2, ai_3, ai_4, al_1, al_2, al_3, al_4, cp_1, cp_2, cp_3, cp_4] at h⟩
  simp only [if_pos h1000]
  -- the run of frames that is kept
  have sp : Seg X S (frm σf) 0 (h + (F - h)) v u c' d' w' := by rw [show h + (F - h) = F by omega]; exact tp.seg
  obtain ⟨v1, c1, d1, w1, c2, d2, w2, lower, upper, hcc, _⟩ := sp.split hX
  rw [Nat.zero_add] at upper
  have hc2 := upper.cntx
  have hm1 : c2 = many := by rw [hc2, hmany]
  have upper' : Seg X S (frm σf) h ((F - h - 1) + 1) v v1 c2 d2 w2 := by rw [show F - h - 1 + 1 = F - h by omega]; exact upper
  obtain ⟨v2, bf, bs⟩ := upper'.bottom
  obtain ⟨good, un⟩ := bf.un hnd
  rcases un with ⟨k, un⟩ | ⟨k, un⟩ | ⟨k, g, t0, u0, ks, us, z1, z2, z3, z4, z5⟩ | ⟨k, un⟩ | ⟨k, un⟩ | ⟨k, _, un⟩ | ⟨k, un⟩
  · omega
  · omega
  rotate_left
  · omega
  · omega
  · omega
  · omega
  have kseg := (bs u0 (.han nd g t0 u0 ks us hnd good k z1 z2 z3 z4 .rfl')).sub h2
  rw [show F - h - 1 + 1 = F - h by omega] at kseg
  obtain ⟨ct, dt, ne, en1, en2⟩ := ctd_of (X := X) hnd
  rw [if_pos k] at ct
  have b8 := kseg.bound8 hX (by omega) ne ct
  have b8' : ((F - h : Nat) : Int) + 1 ≤ 41 * c2 := by have := (upper.bound hX).2; have := b8.1; omega
  obtain ⟨q1, q2, q3⟩ := z4 qq hq1 hq2
  have clq := hX.cl nd hndN k qq hq1 hq2
  have cfq := hX.cf nd hndN k
  have i48 : (σf.1 48 + (1 + y3)).toInt = (σf.1 48).toInt + 1 + many ∧ (σf.1 48).toInt + 1 + many ≤ 1000 := by
    clear r tp hv lower upper upper' kseg bs bf sp q2 z3 z4; constructor <;> ((try (simp only [vp_in, Int32.toNatClampNeg, Int32.lt_iff_toInt_lt, Int32.le_iff_toInt_le, ← Int32.toInt_inj, Int32.toInt_add, Int32.toInt_sub, Int32.toInt_mul, Int32.reduceToInt, i32_neg1, Nat.reducePow, Int.reducePow, ne_eq, ge_iff_le, gt_iff_lt] at *)) <;> (first | omega | ((simp (disch := omega) only [bm32] at *) <;> omega)))
  have i441 : (σf.1 44 - 1).toInt = F := by clear r tp hv lower upper upper' kseg bs bf sp q2 z3 z4; ((try (simp only [vp_in, Int32.toNatClampNeg, Int32.lt_iff_toInt_lt, Int32.le_iff_toInt_le, ← Int32.toInt_inj, Int32.toInt_add, Int32.toInt_sub, Int32.toInt_mul, Int32.reduceToInt, i32_neg1, Nat.reducePow, Int.reducePow, ne_eq, ge_iff_le, gt_iff_lt] at *)) <;> (first | omega | ((simp (disch := omega) only [bm32] at *) <;> omega)))
  have hK2 : K + (F - h) ≤ 42000 := by omega
  simp (decide := true) only [si_1, if_false]
  obtain ⟨s2, kp⟩ := keep_ok (σ := mo_si σf 48 (σf.1 48 + (1 + y3))) (nk := S.nk) (K := K) (h := h) (m := F - h) (by simp [si_1, si_2, sl_1, sl_2, sl_3, ai_1, ai_2, ai_3, ai_4, al_1, al_2, al_3, al_4, cp_1, cp_2, cp_3, cp_4, r.hp.co]) (by omega) (by simp [si_1, si_2, sl_1, sl_2, sl_3, ai_1, ai_2, ai_3, ai_4, al_1, al_2, al_3, al_4, cp_1, cp_2, cp_3, cp_4, r.hp.ke]) hK2 (x1 := y2) (x2 := σf.1 44 - 1) (x3 := y3) ho2 (by omega) (by omega) (n := n) (by omega)
  generalize F_Mo_keep n (mo_si σf 48 (σf.1 48 + (1 + y3))) y2 (σf.1 44 - 1) y3 = σk at *
  have frk : frm σk = frm σf := frm_of (fun j hj => by rw [kp.a j (by omega)]; rfl) (fun j hj => by rw [kp.al j (by omega) (by omega)]; rfl)
  -- the store, grown
  have hS : S.le ⟨S.nf, S.nk + 1, S.ft, fun i => if i = S.nk then ks qq else S.kt i⟩ := ⟨Nat.le_refl _, Nat.le_succ _, fun _ _ => rfl, fun i hi => by show (if i = S.nk then ks qq else S.kt i) = _; rw [if_neg (by omega)]⟩
  have hp' : Heap X ⟨S.nf, S.nk + 1, S.ft, fun i => if i = S.nk then ks qq else S.kt i⟩ σk (K + (F - h)) (q + many) := by
    have hp := r.hp
    refine ⟨by rw [kp.f 56 (by omega) (by omega)]; simp [si_1, si_2, sl_1, sl_2, sl_3, ai_1, ai_2, ai_3, ai_4, al_1, al_2, al_3, al_4, cp_1, cp_2, cp_3, cp_4, hp.fn], by have := kp.f61; simp only [Sto.nk_mk]; omega, by have := kp.f62; omega, by omega, ?_, fun i hi => ?_, fun j hj => ?_⟩
    · rw [kp.f 48 (by omega) (by omega)]; simp only [si_1, if_true, Sto.nf_mk, Sto.nk_mk]; omega
    · have e54 : σk.2.2.1 54 i = σf.2.2.1 54 i := by rw [kp.a 54 (by omega)]; rfl
      have e55 : σk.2.2.2 55 = σf.2.2.2 55 := by rw [kp.al 55 (by omega) (by omega)]; rfl
      rw [e54, e55]
      exact (hp.fo i hi).mono hS
    · by_cases hjk : j = S.nk
      · subst hjk
        refine ⟨K, F - h, X.gv (X.A 16 qq).toInt.toNat, u0, c2, w2, d2, ?_, ?_, ?_, by omega, by omega, ?_, ?_, ?_⟩
        · rw [kp.a57, if_pos rfl]
        · rw [kp.a58, if_pos rfl]
        · rw [kp.a59, if_pos rfl, ho3, hm1]
        · rw [kp.kf, if_pos (by omega), Nat.sub_self, Nat.add_zero]
          exact ct
        · simp only [Sto.kt_mk, if_true]; exact q1
        · rw [hq3]
          refine (kseg.mono hS).copy (fun i hi => ?_)
          rw [kp.kf, if_pos (by omega), show K + i - K = i by omega]
          rfl
      · simp only [Sto.nk_mk] at hj
        obtain ⟨f, m, a, uu, cc, ww, dd, k1, k2, k3, k4, k5, k6, k7, k8⟩ := hp.ko j (by omega)
        have ek : ∀ i, i < K → kfr σk i = kfr σf i := fun i hi => by rw [kp.kf, if_neg (by omega)]; rfl
        refine ⟨f, m, a, uu, cc, ww, dd, ?_, ?_, ?_, by omega, k5, ?_, ?_, ?_⟩
        · rw [kp.a57, if_neg hjk]; exact k1
        · rw [kp.a58, if_neg hjk]; exact k2
        · rw [kp.a59, if_neg hjk]; exact k3
        · rw [ek f (by omega)]; exact k6
        · simp only [Sto.kt_mk, if_neg hjk]; exact k7
        · exact (k8.mono hS).copy (fun i hi => ek _ (by omega))
  obtain ⟨s3, f3⟩ := seeAgain_ok (σ := σk) (F := h) (by omega) (x := y2) ho2 (n := n) (by omega)
  simp only [mbind_eq, f3, cp_1, cp_3, si_2, al_1, al_3]
  have hC := hX.hC
  have Ek : ∀ k, 5 ≤ k → k ≤ 19 → ∀ i, i < bnd X k → σk.2.2.1 k i = X.A k i := fun j h1 h2 i hi => by rw [kp.a j (by omega)]; exact r.arr j h1 h2 i hi
  have e4 : y4.toNatClampNeg = qq := by show y4.toInt.toNat = qq; omega
  have v4 : vp_in y4 40 := by clear r tp hv lower upper upper' kseg bs bf sp q2 z3 z4 hp' Ek; ((try (simp only [vp_in, Int32.toNatClampNeg, Int32.lt_iff_toInt_lt, Int32.le_iff_toInt_le, ← Int32.toInt_inj, Int32.toInt_add, Int32.toInt_sub, Int32.toInt_mul, Int32.reduceToInt, i32_neg1, Nat.reducePow, Int.reducePow, ne_eq, ge_iff_le, gt_iff_lt] at *)) <;> (first | omega | ((simp (disch := omega) only [bm32] at *) <;> omega)))
  have v17 : vp_in (X.A 17 qq) 10 := by clear r tp hv lower upper upper' kseg bs bf sp q2 z3 z4 hp' Ek; ((try (simp only [vp_in, Int32.toNatClampNeg, Int32.lt_iff_toInt_lt, Int32.le_iff_toInt_le, ← Int32.toInt_inj, Int32.toInt_add, Int32.toInt_sub, Int32.toInt_mul, Int32.reduceToInt, i32_neg1, Nat.reducePow, Int.reducePow, ne_eq, ge_iff_le, gt_iff_lt] at *)) <;> (first | omega | ((simp (disch := omega) only [bm32] at *) <;> omega)))
  have v18 : vp_in (X.A 18 qq) 10 := by clear r tp hv lower upper upper' kseg bs bf sp q2 z3 z4 hp' Ek; ((try (simp only [vp_in, Int32.toNatClampNeg, Int32.lt_iff_toInt_lt, Int32.le_iff_toInt_le, ← Int32.toInt_inj, Int32.toInt_add, Int32.toInt_sub, Int32.toInt_mul, Int32.reduceToInt, i32_neg1, Nat.reducePow, Int.reducePow, ne_eq, ge_iff_le, gt_iff_lt] at *)) <;> (first | omega | ((simp (disch := omega) only [bm32] at *) <;> omega)))
  simp only [e4, Ek 17 (by omega) (by omega) qq (show qq < X.C by omega), Ek 18 (by omega) (by omega) qq (show qq < X.C by omega), Ek 19 (by omega) (by omega) qq (show qq < X.C by omega)]
  have y17 : (X.A 17 qq).toNatClampNeg = (X.A 17 qq).toInt.toNat := rfl
  have y18 : (X.A 18 qq).toNatClampNeg = (X.A 18 qq).toInt.toNat := rfl
  rw [y17, y18]
  simp (decide := true) only [si_1, if_false, cp_1]
  have k49 : σk.1 49 = σf.1 49 := by rw [kp.f 49 (by omega) (by omega)]; simp [si_1, si_2, sl_1, sl_2, sl_3, ai_1, ai_2, ai_3, ai_4, al_1, al_2, al_3, al_4, cp_1, cp_2, cp_3, cp_4]
  have k61 := kp.f61
  have i49 : (σk.1 49 - (y3 - 1)).toInt = c1 + 1 ∧ c1 + 1 ≤ 400 := by
    rw [k49]; have := b8.2
    clear r tp hv lower upper upper' kseg bs bf sp q2 z3 z4 hp' Ek; constructor <;> ((try (simp only [vp_in, Int32.toNatClampNeg, Int32.lt_iff_toInt_lt, Int32.le_iff_toInt_le, ← Int32.toInt_inj, Int32.toInt_add, Int32.toInt_sub, Int32.toInt_mul, Int32.reduceToInt, i32_neg1, Nat.reducePow, Int.reducePow, ne_eq, ge_iff_le, gt_iff_lt] at *)) <;> (first | omega | ((simp (disch := omega) only [bm32] at *) <;> omega)))
  have i61 : (-σk.1 61).toInt64.toInt = -(S.nk + 1) := by
    rw [Int32.toInt_toInt64]
    have : (-σk.1 61).toInt = -(σk.1 61).toInt := by
      rw [Int32.toInt_neg]
      exact bm32 (by omega)
    rw [this, k61]
  have gpq := good.part hX (parts_q k hq1 hq2)
  -- what is seen in the clause
  have e17 := nsee_al (σ := mo_si (mo_si (cp σk 53 0 43 (10 * h) 0) 44 y2) 49 (σk.1 49 - (y3 - 1))) (y := (X.A 17 qq).toInt.toNat) (v := σk.2.1) (by omega)
  have e18 := nsee_al (σ := mo_al (mo_si (mo_si (cp σk 53 0 43 (10 * h) 0) 44 y2) 49 (σk.1 49 - (y3 - 1))) 53 (X.A 17 qq).toInt.toNat σk.2.1) (y := (X.A 18 qq).toInt.toNat) (v := (-σk.1 61).toInt64) (by omega)
  have ns : nsee (mo_si (mo_si (cp σk 53 0 43 (10 * h) 0) 44 y2) 49 (σk.1 49 - (y3 - 1))) = (frm σf h).see := by
    show nsee (cp σk 53 0 43 (10 * h) 0) = _
    rw [nsee_cp, frk]
  have kl : σk.2.1 = σf.2.1 := kp.l
  simp only [cp_2]
  generalize hσe : mo_al (mo_al (mo_si (mo_si (cp σk 53 0 43 (10 * h) 0) 44 y2) 49 (σk.1 49 - (y3 - 1))) 53 (X.A 17 qq).toInt.toNat σk.2.1) 53 (X.A 18 qq).toInt.toNat (-σk.1 61).toInt64 = σe at *
  have ef : ∀ k, k ≠ 44 → k ≠ 49 → σe.1 k = σk.1 k := fun k h1 h2 => by rw [← hσe]; simp [si_1, si_2, sl_1, sl_2, sl_3, ai_1, ai_2, ai_3, ai_4, al_1, al_2, al_3, al_4, cp_1, cp_2, cp_3, cp_4, h1, h2]
  have ea : σe.2.2.1 = σk.2.2.1 := by rw [← hσe]; rfl
  have eal : ∀ k, k ≠ 53 → σe.2.2.2 k = σk.2.2.2 k := fun k hk => by rw [← hσe]; funext i; simp [si_1, si_2, sl_1, sl_2, sl_3, ai_1, ai_2, ai_3, ai_4, al_1, al_2, al_3, al_4, cp_1, cp_2, cp_3, cp_4, hk]
  have e44 : σe.1 44 = y2 := by rw [← hσe]; simp [si_1, si_2, sl_1, sl_2, sl_3, ai_1, ai_2, ai_3, ai_4, al_1, al_2, al_3, al_4, cp_1, cp_2, cp_3, cp_4]
  have e49 : σe.1 49 = σk.1 49 - (y3 - 1) := by rw [← hσe]; simp [si_1, si_2, sl_1, sl_2, sl_3, ai_1, ai_2, ai_3, ai_4, al_1, al_2, al_3, al_4, cp_1, cp_2, cp_3, cp_4]
  have fre : frm σe = frm σf := (frm_of (fun j hj => by rw [ea]) (fun j hj => eal j (by omega))).trans frk
  have th' := hp'.th
  obtain ⟨m1, m2, m3, m4⟩ := RunJ.marks (X := X) (S := ⟨S.nf, S.nk + 1, S.ft, fun i => if i = S.nk then ks qq else S.kt i⟩) (σ := σe) (K := K + (F - h)) (q := q + many) (F := h) (c := c1) (w := w1) (v := v1) (u := u) (tb := us qq) (d := d1) hX (fun j h1 h2 i hi => by rw [ea]; exact Ek j h1 h2 i hi) (hp'.congr (fun j hj => ef j (by omega) (by omega)) (by rw [ef 48 (by omega) (by omega)]; omega) (fun j hj => by rw [ea]) (fun j hj => eal j (by omega))) (by rw [fre]; exact lower.mono hS) (by rw [e44]; exact ho2) (by rw [e49]; exact i49.1) i49.2 (x := X.A 19 qq) (n := (X.A 19 qq).toInt.toNat) (Int.toNat_of_nonneg clq.2.2.2).symm gpq.1 q2 (by
      refine SeeOk.xenv (see := nsee (mo_al (mo_si (mo_si (cp σk 53 0 43 (10 * h) 0) 44 y2) 49 (σk.1 49 - (y3 - 1))) 53 (X.A 17 qq).toInt.toNat σk.2.1)) ?_ ?_ (fun k hk hne => e18.2 k hk hne)
      · refine (z1.mono hS).xenv ?_ (fun k hk hne => by rw [e17.2 k hk hne, ns])
        rw [e17.1, kl, hq3]
        exact (hv.mono hS).sub hX.fo h1
      · rw [e18.1]
        intro _
        right
        rw [i61]
        have : (-1 - -((S.nk : Int) + 1)).toNat = S.nk := by omega
        rw [this]
        exact ⟨by omega, Nat.lt_succ_self _, by simp only [Sto.kt_mk, if_true]; exact .rfl'⟩) ((Sbt.of q3).trans z5)
  refine ⟨⟨s1, s2, s3, v4, v17, v4, v18, v4, m1, trivial⟩, ?_, ?_, fun _ => ⟨_, m4⟩⟩
  · refine RFr.trans ⟨fun j hj => ?_, fun j hj => ?_⟩ m2
    · rw [ef j (by omega) (by omega), kp.f j (by omega) (by omega), si_1, if_neg (by omega)]
    · rw [ea, kp.a j (by omega)]; rfl
  · rw [m3, ef 47 (by omega) (by omega), kp.f 47 (by omega) (by omega)]; simp [si_1, si_2, sl_1, sl_2, sl_3, ai_1, ai_2, ai_3, ai_4, al_1, al_2, al_3, al_4, cp_1, cp_2, cp_3, cp_4]
end
section
/-! pure rows: the machine runs -/
theorem lgc_lt0 {x : Int64} : lg_cmp x 0 < 0 ↔ x.toInt < 0 := by
  unfold lg_cmp
  by_cases h1 : x > 0
  · rw [if_pos h1]
    have : 0 < x.toInt := by have := Int64.lt_iff_toInt_lt.mp h1; simpa [si_1, si_2, sl_1, sl_2, sl_3, ai_1, ai_2, ai_3, ai_4, al_1, al_2, al_3, al_4, cp_1, cp_2, cp_3, cp_4] using this
    constructor
    · intro h; exact absurd h (by decide)
    · intro h; omega
  · rw [if_neg h1]
    have h1' : ¬ 0 < x.toInt := by intro h; apply h1; exact Int64.lt_iff_toInt_lt.mpr (by simpa [si_1, si_2, sl_1, sl_2, sl_3, ai_1, ai_2, ai_3, ai_4, al_1, al_2, al_3, al_4, cp_1, cp_2, cp_3, cp_4] using h)
    by_cases h2 : x = 0
    · rw [if_pos h2]; subst h2
      constructor
      · intro h; exact absurd h (by decide)
      · intro h; exact absurd h (by decide)
    · rw [if_neg h2]
      have : x.toInt ≠ 0 := by intro h; apply h2; apply Int64.toInt_inj.mp; rw [h]; rfl
      constructor
      · intro _; omega
      · intro _; decide
theorem neg64 {v : Int64} (h1 : v.toInt < 0) (h2 : -2000 < v.toInt) : (-1 - v).toInt = -1 - v.toInt := by
  rw [Int64.toInt_sub]
  have : (-1 : Int64).toInt = -1 := rfl
  rw [this, Int.bmod_eq_of_le (by omega) (by omega)]
theorem neg32 {v : Int64} (h1 : v.toInt < 0) (h2 : -2000 < v.toInt) : (-1 - v).toInt32.toInt = ((-1 - v.toInt).toNat : Int) := by
  have e := Int64.toInt_toInt32 (-1 - v)
  rw [neg64 h1 h2] at e
  have b := bm32 (x := -1 - v.toInt) (by omega)
  have b2 : Int.bmod (-1 - v.toInt) (2 ^ 32) = -1 - v.toInt := b
  rw [e, b2]; omega
theorem comes_ok {X : Cx} (hX : X.Ok) {S : Sto} {σ : mSt} {K q F c w t u : Nat} {d : Int} (r : RunJ X S σ K q (F + 1) c w t u d) (h51 : σ.1 51 ≠ 0) (hv : V X.P S σ.2.1 t) {x1 : Int32} {n : Nat} (hn : 42100 ≤ n) :
    S_Mo_comes n σ x1 ∧ ((F_Mo_comes n σ x1 = (0, σ) ∧ x1 = 0) ∨ ((F_Mo_comes n σ x1).1 = 1 ∧ StepR X σ (F_Mo_comes n σ x1).2 w) ∨ ((F_Mo_comes n σ x1).1 = 1 ∧ x1 ≠ 0 ∧ RFr σ (F_Mo_comes n σ x1).2 ∧ (F_Mo_comes n σ x1).2.1 47 = σ.1 47 + 1 ∧ ((F_Mo_comes n σ x1).2.1 46 = 1 → ∃ M', RunOk X (F_Mo_comes n σ x1).2 M'))) := by
  obtain ⟨v, c', w', d', tp, hd⟩ := r.top
  have f44 := r.f44
  have hF := r.F hX
  have hN := hX.hN
  have i44 : (σ.1 44 - 1).toInt = F := by clear r tp hv; ((try (simp only [vp_in, Int32.toNatClampNeg, Int32.lt_iff_toInt_lt, Int32.le_iff_toInt_le, ← Int32.toInt_inj, Int32.toInt_add, Int32.toInt_sub, Int32.toInt_mul, Int32.reduceToInt, i32_neg1, Nat.reducePow, Int.reducePow, ne_eq, ge_iff_le, gt_iff_lt] at *)) <;> (first | omega | ((simp (disch := omega) only [bm32] at *) <;> omega)))
  have e44 : (σ.1 44 - 1).toNatClampNeg = F := by show (σ.1 44 - 1).toInt.toNat = F; omega
  have v44 : vp_in (σ.1 44 - 1) 17000 := by clear r tp hv; ((try (simp only [vp_in, Int32.toNatClampNeg, Int32.lt_iff_toInt_lt, Int32.le_iff_toInt_le, ← Int32.toInt_inj, Int32.toInt_add, Int32.toInt_sub, Int32.toInt_mul, Int32.reduceToInt, i32_neg1, Nat.reducePow, Int.reducePow, ne_eq, ge_iff_le, gt_iff_lt] at *)) <;> (first | omega | ((simp (disch := omega) only [bm32] at *) <;> omega)))
  have hnode : σ.2.2.1 40 F = (frm σ F).node := rfl
  have hstage : σ.2.2.1 41 F = (frm σ F).stage := rfl
  have hval : σ.2.2.2 42 F = (frm σ F).val := rfl
  simp only [S_Mo_comes, F_Mo_comes, e44, hnode]
  rcases tp.ok.node with hm | ⟨nd, hnd, good, k4, k5, k7⟩
  · simp only [if_pos hm]
    refine ⟨⟨v44, trivial⟩, Or.inr (Or.inl ⟨trivial, ?_⟩)⟩
    have := comes_mark hX r h51 hv hm
    simp (decide := true) only [si_1, if_false]
    exact this
  obtain ⟨ct, dt, ne, en1, en2⟩ := ctd_of (X := X) hnd
  have g1 := good.1
  have v40 : vp_in (frm σ F).node 200 := by clear r tp hv; ((try (simp only [vp_in, Int32.toNatClampNeg, Int32.lt_iff_toInt_lt, Int32.le_iff_toInt_le, ← Int32.toInt_inj, Int32.toInt_add, Int32.toInt_sub, Int32.toInt_mul, Int32.reduceToInt, i32_neg1, Nat.reducePow, Int.reducePow, ne_eq, ge_iff_le, gt_iff_lt] at *)) <;> (first | omega | ((simp (disch := omega) only [bm32] at *) <;> omega)))
  have e5 := r.arr 5 (by omega) (by omega) nd g1
  have e6 := r.arr 6 (by omega) (by omega) nd g1
  have e10 := r.arr 10 (by omega) (by omega) nd g1
  simp only [if_neg ne, en1, e5]
  obtain ⟨_, un⟩ := tp.ok.un hnd
  have kk := hX.kd nd g1
  -- the second part of two and call
  have sec : ∀ (_ : (X.A 5 nd).toInt = 9 ∨ (X.A 5 nd).toInt = 10) (_ : (frm σ F).stage = 0), S_Mo_comes_j77 n σ x1 (σ.1 44 - 1) (frm σ F).node 1 ∧ (F_Mo_comes_j77 n σ x1 (σ.1 44 - 1) (frm σ F).node 1).1 = 1 ∧ StepR X σ (F_Mo_comes_j77 n σ x1 (σ.1 44 - 1) (frm σ F).node 1).2 w := by
    intro h9 hst
    have cs := comes_second hX r hv hnd h9 hst
    obtain ⟨ss, sf⟩ := seeAgain_ok (σ := mo_ai (mo_al σ 42 F σ.2.1) 41 F 1) (F := F) (by omega) i44 (n := n) (by omega)
    simp (decide := true) only [S_Mo_comes_j77, F_Mo_comes_j77, if_false, mbind_eq, e44, sf, en1, cp_3, ai_3, al_3, false_and, e10, S_Mo_work]
    exact ⟨⟨v44, v44, ss, v40, trivial⟩, trivial, cs⟩
  -- what goes behind
  have beh : ∀ (_ : (X.A 5 nd).toInt = 9 ∧ (frm σ F).stage ≠ 0 ∨ (X.A 5 nd).toInt = 4 ∨ (X.A 5 nd).toInt = 6 ∨ (X.A 5 nd).toInt = 8), S_Mo_comes_j77 n σ x1 (σ.1 44 - 1) (frm σ F).node 0 ∧ (F_Mo_comes_j77 n σ x1 (σ.1 44 - 1) (frm σ F).node 0).1 = 1 ∧ StepR X σ (F_Mo_comes_j77 n σ x1 (σ.1 44 - 1) (frm σ F).node 0).2 w := by
    intro h9
    obtain ⟨s, st⟩ := goesBehind_ok hX r hv hnd h9 (x1 := σ.1 44 - 1) (x2 := (frm σ F).node) i44 hnd (n := n) (by omega)
    have n10 : ¬ X.A 5 nd = 10 := by
      intro hh
      have : (X.A 5 nd).toInt = 10 := by rw [hh]; rfl
      omega
    have n11 : ¬ X.A 5 nd = 11 := by
      intro hh
      have : (X.A 5 nd).toInt = 11 := by rw [hh]; rfl
      omega
    simp only [S_Mo_comes_j77, F_Mo_comes_j77, if_true, en1, e5, if_neg n10, if_neg n11, mbind_eq]
    exact ⟨⟨v40, v40, s, trivial⟩, trivial, st⟩
  -- call and perform
  have cal : ∀ (_ : (X.A 5 nd).toInt = 10 ∧ (frm σ F).stage ≠ 0 ∨ (X.A 5 nd).toInt = 11), S_Mo_comes_j140 n σ x1 (σ.1 44 - 1) (frm σ F).node ∧ ((F_Mo_comes_j140 n σ x1 (σ.1 44 - 1) (frm σ F).node = (0, σ) ∧ x1 = 0) ∨ ((F_Mo_comes_j140 n σ x1 (σ.1 44 - 1) (frm σ F).node).1 = 1 ∧ x1 ≠ 0 ∧ RFr σ (F_Mo_comes_j140 n σ x1 (σ.1 44 - 1) (frm σ F).node).2 ∧ (F_Mo_comes_j140 n σ x1 (σ.1 44 - 1) (frm σ F).node).2.1 47 = σ.1 47 + 1 ∧ ((F_Mo_comes_j140 n σ x1 (σ.1 44 - 1) (frm σ F).node).2.1 46 = 1 → ∃ M', RunOk X (F_Mo_comes_j140 n σ x1 (σ.1 44 - 1) (frm σ F).node).2 M'))) := by
    intro h10
    have hct : ctd X.A (frm σ F).node = 0 := by rw [ct, if_neg (by omega)]
    by_cases hx0 : x1 = 0
    · simp only [S_Mo_comes_j140, F_Mo_comes_j140, if_pos hx0]
      exact ⟨trivial, Or.inl ⟨trivial, hx0⟩⟩
    have r' : RunJ X S (mo_si σ 47 (σ.1 47 + 1)) K q (F + 1) c w t u d := r.congr (fun k hk => by rw [si_1, if_neg (by omega)]) (fun _ _ => rfl) (fun _ _ => rfl)
    have tp' : Top X S (mo_si σ 47 (σ.1 47 + 1)) F v u c' t w' d' c w := ⟨tp.seg, tp.ok, tp.ch, tp.hc, tp.hw⟩
    have fin : ∀ σ' : mSt, CallR X (mo_si σ 47 (σ.1 47 + 1)) σ' → RFr σ σ' ∧ σ'.1 47 = σ.1 47 + 1 ∧ (σ'.1 46 = 1 → ∃ M', RunOk X σ' M') := by
      intro σ' ⟨a1, a2, a3⟩
      exact ⟨(RFr.rfl'.si (by omega)).trans a1, by rw [a2]; simp [si_1, si_2, sl_1, sl_2, sl_3, ai_1, ai_2, ai_3, ai_4, al_1, al_2, al_3, al_4, cp_1, cp_2, cp_3, cp_4], a3⟩
    simp only [S_Mo_comes_j140, F_Mo_comes_j140, if_neg hx0, en1, si_2, e5, e6, e44, hval, mbind_eq]
    by_cases h11 : X.A 5 nd = 11
    · have k11 : (X.A 5 nd).toInt = 11 := by rw [h11]; rfl
      simp only [if_pos h11]
      rcases un with ⟨k, un⟩ | ⟨k, un⟩ | ⟨k, un⟩ | ⟨k, un⟩ | ⟨k, un⟩ | ⟨k, un⟩ | ⟨k, s1, s2⟩
      · omega
      · omega
      · omega
      · omega
      · omega
      · omega
      · obtain ⟨s, cr⟩ := performs_ok hX r' tp' hv hct (x1 := X.A 6 nd) s1 s2 hn
        obtain ⟨a1, a2, a3⟩ := fin _ cr
        exact ⟨⟨v40, v40, s, trivial⟩, Or.inr ⟨trivial, hx0, a1, a2, a3⟩⟩
    · simp only [if_neg h11]
      have k11 : (X.A 5 nd).toInt ≠ 11 := by intro hh; apply h11; clear r tp hv sec beh fin r' tp' un; ((try (simp only [vp_in, Int32.toNatClampNeg, Int32.lt_iff_toInt_lt, Int32.le_iff_toInt_le, ← Int32.toInt_inj, Int32.toInt_add, Int32.toInt_sub, Int32.toInt_mul, Int32.reduceToInt, i32_neg1, Nat.reducePow, Int.reducePow, ne_eq, ge_iff_le, gt_iff_lt] at *)) <;> (first | omega | ((simp (disch := omega) only [bm32] at *) <;> omega)))
      rcases un with ⟨k, un⟩ | ⟨k, un⟩ | ⟨k, un⟩ | ⟨k, un⟩ | ⟨k, hst, un⟩ | ⟨k, hst, f0, a, r0, s1, s2, s3, s4⟩ | ⟨k, un⟩
      · omega
      · omega
      · omega
      · omega
      · rcases h10 with ⟨_, h⟩ | h
        · exact absurd hst h
        · omega
      · have f3 := hX.fo.ge _ _ _ s2
        have th := r.hp.th
        rcases s1 f3 with ⟨z1, z2, z3⟩ | ⟨z1, z2, z3⟩
        · have hlt : ¬ lg_cmp (frm σ F).val 0 < 0 := by rw [lgc_lt0]; omega
          have i32v : (frm σ F).val.toInt32.toInt = ((frm σ F).val.toInt.toNat : Nat) := by
            rw [Int64.toInt_toInt32, Int.bmod_eq_of_le (by omega) (by omega)]; omega
          obtain ⟨s, cr⟩ := callFunction_ok hX r' tp' hv hct s2 z2 z3 s3 s4 i32v (n := n) (by omega)
          obtain ⟨a1, a2, a3⟩ := fin _ cr
          simp only [if_neg hlt]
          exact ⟨⟨v40, v44, v44, s, trivial⟩, Or.inr ⟨trivial, hx0, a1, a2, a3⟩⟩
        · have hlt : lg_cmp (frm σ F).val 0 < 0 := by rw [lgc_lt0]; omega
          have h2 : -2000 < (frm σ F).val.toInt := by
            clear r tp hv sec beh fin r' tp' s2 s3 s4 z3; omega
          have i32v := neg32 z1 h2
          obtain ⟨s, cr⟩ := goOn_ok hX r' tp' hv hct s2 z2 z3 s3 s4 i32v (n := n) hn
          obtain ⟨a1, a2, a3⟩ := fin _ cr
          simp only [if_pos hlt]
          exact ⟨⟨v40, v44, v44, s, trivial⟩, Or.inr ⟨trivial, hx0, a1, a2, a3⟩⟩
      · omega
  have j76 : ∀ (_ : (X.A 5 nd).toInt = 9 → (frm σ F).stage ≠ 0) (_ : (X.A 5 nd).toInt = 10 → (frm σ F).stage ≠ 0), S_Mo_comes_j76 n σ x1 (σ.1 44 - 1) (frm σ F).node ∧ ((F_Mo_comes_j76 n σ x1 (σ.1 44 - 1) (frm σ F).node = (0, σ) ∧ x1 = 0) ∨ ((F_Mo_comes_j76 n σ x1 (σ.1 44 - 1) (frm σ F).node).1 = 1 ∧ StepR X σ (F_Mo_comes_j76 n σ x1 (σ.1 44 - 1) (frm σ F).node).2 w) ∨ ((F_Mo_comes_j76 n σ x1 (σ.1 44 - 1) (frm σ F).node).1 = 1 ∧ x1 ≠ 0 ∧ RFr σ (F_Mo_comes_j76 n σ x1 (σ.1 44 - 1) (frm σ F).node).2 ∧ (F_Mo_comes_j76 n σ x1 (σ.1 44 - 1) (frm σ F).node).2.1 47 = σ.1 47 + 1 ∧ ((F_Mo_comes_j76 n σ x1 (σ.1 44 - 1) (frm σ F).node).2.1 46 = 1 → ∃ M', RunOk X (F_Mo_comes_j76 n σ x1 (σ.1 44 - 1) (frm σ F).node).2 M'))) := by
    intro hst9 hst10
    simp only [S_Mo_comes_j76, F_Mo_comes_j76]
    by_cases h10 : X.A 5 nd = 10
    · have k10 : (X.A 5 nd).toInt = 10 := by rw [h10]; rfl
      obtain ⟨s, o⟩ := cal (Or.inl ⟨k10, hst10 k10⟩)
      simp only [S_Mo_comes_j77, F_Mo_comes_j77, if_true, en1, e5, if_pos h10]
      exact ⟨⟨v40, s⟩, o.elim Or.inl (fun o => Or.inr (Or.inr o))⟩
    by_cases h11 : X.A 5 nd = 11
    · have k11 : (X.A 5 nd).toInt = 11 := by rw [h11]; rfl
      obtain ⟨s, o⟩ := cal (Or.inr k11)
      simp only [S_Mo_comes_j77, F_Mo_comes_j77, if_true, en1, e5, if_neg h10, if_pos h11]
      exact ⟨⟨v40, v40, s⟩, o.elim Or.inl (fun o => Or.inr (Or.inr o))⟩
    have k10 : (X.A 5 nd).toInt ≠ 10 := by intro hh; apply h10; clear r tp hv sec beh cal un; ((try (simp only [vp_in, Int32.toNatClampNeg, Int32.lt_iff_toInt_lt, Int32.le_iff_toInt_le, ← Int32.toInt_inj, Int32.toInt_add, Int32.toInt_sub, Int32.toInt_mul, Int32.reduceToInt, i32_neg1, Nat.reducePow, Int.reducePow, ne_eq, ge_iff_le, gt_iff_lt] at *)) <;> (first | omega | ((simp (disch := omega) only [bm32] at *) <;> omega)))
    have k11 : (X.A 5 nd).toInt ≠ 11 := by intro hh; apply h11; clear r tp hv sec beh cal un; ((try (simp only [vp_in, Int32.toNatClampNeg, Int32.lt_iff_toInt_lt, Int32.le_iff_toInt_le, ← Int32.toInt_inj, Int32.toInt_add, Int32.toInt_sub, Int32.toInt_mul, Int32.reduceToInt, i32_neg1, Nat.reducePow, Int.reducePow, ne_eq, ge_iff_le, gt_iff_lt] at *)) <;> (first | omega | ((simp (disch := omega) only [bm32] at *) <;> omega)))
    obtain ⟨s, o1, o2⟩ := beh (by
      by_cases h9 : (X.A 5 nd).toInt = 9
      · exact Or.inl ⟨h9, hst9 h9⟩
      · right; omega)
    exact ⟨s, Or.inr (Or.inl ⟨o1, o2⟩)⟩
  have j63 : ∀ (_ : (X.A 5 nd).toInt = 9 ∨ (X.A 5 nd).toInt = 10), S_Mo_comes_j63 n σ x1 (σ.1 44 - 1) (frm σ F).node ∧ ((F_Mo_comes_j63 n σ x1 (σ.1 44 - 1) (frm σ F).node = (0, σ) ∧ x1 = 0) ∨ ((F_Mo_comes_j63 n σ x1 (σ.1 44 - 1) (frm σ F).node).1 = 1 ∧ StepR X σ (F_Mo_comes_j63 n σ x1 (σ.1 44 - 1) (frm σ F).node).2 w) ∨ ((F_Mo_comes_j63 n σ x1 (σ.1 44 - 1) (frm σ F).node).1 = 1 ∧ x1 ≠ 0 ∧ RFr σ (F_Mo_comes_j63 n σ x1 (σ.1 44 - 1) (frm σ F).node).2 ∧ (F_Mo_comes_j63 n σ x1 (σ.1 44 - 1) (frm σ F).node).2.1 47 = σ.1 47 + 1 ∧ ((F_Mo_comes_j63 n σ x1 (σ.1 44 - 1) (frm σ F).node).2.1 46 = 1 → ∃ M', RunOk X (F_Mo_comes_j63 n σ x1 (σ.1 44 - 1) (frm σ F).node).2 M'))) := by
    intro h9
    simp only [S_Mo_comes_j63, F_Mo_comes_j63, e44, hstage]
    by_cases hst : (frm σ F).stage = 0
    · simp only [if_pos hst]
      obtain ⟨s, o1, o2⟩ := sec h9 hst
      exact ⟨⟨v44, s⟩, Or.inr (Or.inl ⟨o1, o2⟩)⟩
    · simp only [if_neg hst]
      obtain ⟨s, o⟩ := j76 (fun _ => hst) (fun _ => hst)
      exact ⟨⟨v44, s⟩, o⟩
  by_cases h9 : X.A 5 nd = 9
  · have k9 : (X.A 5 nd).toInt = 9 := by rw [h9]; rfl
    obtain ⟨s, o⟩ := j63 (Or.inl k9)
    simp only [if_pos h9]
    exact ⟨⟨v44, v40, s⟩, o⟩
  simp only [if_neg h9]
  by_cases h10 : X.A 5 nd = 10
  · have k9 : (X.A 5 nd).toInt = 10 := by rw [h10]; rfl
    obtain ⟨s, o⟩ := j63 (Or.inr k9)
    simp only [if_pos h10]
    exact ⟨⟨v44, v40, v40, s⟩, o⟩
  simp only [if_neg h10]
  obtain ⟨s, o⟩ := j76 (fun hh => absurd (by clear r tp hv sec beh cal un j76 j63; ((try (simp only [vp_in, Int32.toNatClampNeg, Int32.lt_iff_toInt_lt, Int32.le_iff_toInt_le, ← Int32.toInt_inj, Int32.toInt_add, Int32.toInt_sub, Int32.toInt_mul, Int32.reduceToInt, i32_neg1, Nat.reducePow, Int.reducePow, ne_eq, ge_iff_le, gt_iff_lt] at *)) <;> (first | omega | ((simp (disch := omega) only [bm32] at *) <;> omega)))) h9) (fun hh => absurd (by clear r tp hv sec beh cal un j76 j63; ((try (simp only [vp_in, Int32.toNatClampNeg, Int32.lt_iff_toInt_lt, Int32.le_iff_toInt_le, ← Int32.toInt_inj, Int32.toInt_add, Int32.toInt_sub, Int32.toInt_mul, Int32.reduceToInt, i32_neg1, Nat.reducePow, Int.reducePow, ne_eq, ge_iff_le, gt_iff_lt] at *)) <;> (first | omega | ((simp (disch := omega) only [bm32] at *) <;> omega)))) h10)
  exact ⟨⟨v44, v40, v40, s⟩, o⟩
end
section
theorem run_stop {n : Nat} {σ : mSt} {x1 x2 x3 : Int32} (hn : 1 ≤ n) (h : x3 = 0 ∨ σ.1 46 ≠ 1) : S_Mo_run_47 n σ x1 x2 x3 ∧ F_Mo_run_47 n σ x1 x2 x3 = (σ, x2) := by
  obtain ⟨n, rfl⟩ : ∃ k, n = k + 1 := ⟨n - 1, by omega⟩
  simp only [S_Mo_run_47, F_Mo_run_47]
  by_cases h3 : x3 = 0
  · simp only [if_pos h3, and_self]
  · rcases h with h | h
    · exact absurd h h3
    · simp only [if_neg h3, if_neg h, and_self]
/-- what a run leaves -/
def Ran (X : Cx) (σ : mSt) (x2 : Int32) (w : mSt × Int32) : Prop := RFr σ w.1 ∧ w.2 = x2 ∧ (w.1.1 46 = 1 → ∃ M', RunOk X w.1 M')
theorem run_47_ok {X : Cx} (hX : X.Ok) {x1 x2 : Int32} : ∀ (m n left : Nat) (σ : mSt) (x3 : Int32) (M : Nat), RunOk X σ M → (x1 - (σ.1 47 - x2)).toInt = left → left ≤ 200 → left * 50000001 + M ≤ m → m + 42200 < n → S_Mo_run_47 n σ x1 x2 x3 ∧ Ran X σ x2 (F_Mo_run_47 n σ x1 x2 x3) := by
  intro m
  induction m using Nat.strongRecOn with
  | _ m ih =>
  intro n left σ x3 M ok hl hl2 hm hn
  by_cases h3 : x3 = 0
  · obtain ⟨s, f⟩ := run_stop (n := n) (σ := σ) (x1 := x1) (x2 := x2) (x3 := x3) (by omega) (Or.inl h3)
    rw [f]; exact ⟨s, RFr.rfl', rfl, fun _ => ⟨M, ok⟩⟩
  by_cases h46 : σ.1 46 = 1
  rotate_left
  · obtain ⟨s, f⟩ := run_stop (n := n) (σ := σ) (x1 := x1) (x2 := x2) (x3 := x3) (by omega) (Or.inr h46)
    rw [f]; exact ⟨s, RFr.rfl', rfl, fun h => absurd h h46⟩
  -- a step that takes no fuel, then the rest
  have next : ∀ (k : Nat) (σ' : mSt) (x3' : Int32), k + 1 = n → StepR X σ σ' M → S_Mo_run_47 k σ' x1 x2 x3' ∧ Ran X σ x2 (F_Mo_run_47 k σ' x1 x2 x3') := by
    intro k σ' x3' hk ⟨fr, f47, go⟩
    by_cases h : σ'.1 46 = 1
    · obtain ⟨M', ok', hM⟩ := go h
      obtain ⟨s, r1, r2, r3⟩ := ih (left * 50000001 + M') (by omega) k left σ' x3' M' ok' (by rw [f47]; exact hl) hl2 (Nat.le_refl _) (by omega)
      exact ⟨s, fr.trans r1, r2, r3⟩
    · obtain ⟨s, f⟩ := run_stop (n := k) (σ := σ') (x1 := x1) (x2 := x2) (x3 := x3') (by omega) (Or.inr h)
      rw [f]; exact ⟨s, fr, rfl, fun hh => absurd hh h⟩
  obtain ⟨n, rfl⟩ : ∃ k, n = k + 1 := ⟨n - 1, by omega⟩
  obtain ⟨S, K, q, F, c, w, t, u, d, r, o⟩ := ok
  simp only [S_Mo_run_47, F_Mo_run_47, if_neg h3, if_pos h46, mbind_eq]
  rcases o with ⟨h51, hv, rfl⟩ | ⟨h51, nd, nw, rfl⟩
  · simp only [if_neg h51]
    have f44 := r.f44
    by_cases h44 : σ.1 44 = 0
    · simp only [if_pos h44]
      obtain ⟨s, f⟩ := run_stop (n := n) (σ := mo_si σ 46 2) (x1 := x1) (x2 := x2) (x3 := x3) (by omega) (Or.inr (by simp [si_1, si_2, sl_1, sl_2, sl_3, ai_1, ai_2, ai_3, ai_4, al_1, al_2, al_3, al_4, cp_1, cp_2, cp_3, cp_4]))
      rw [f]; exact ⟨s, RFr.rfl'.si (by omega), rfl, fun h => by simp [si_1, si_2, sl_1, sl_2, sl_3, ai_1, ai_2, ai_3, ai_4, al_1, al_2, al_3, al_4, cp_1, cp_2, cp_3, cp_4] at h⟩
    · simp only [if_neg h44]
      obtain ⟨F, rfl⟩ : ∃ k, F = k + 1 := by
        cases F with
        | zero => exact absurd (Int32.toInt_inj.mp (by rw [f44]; rfl)) h44
        | succ k => exact ⟨k, rfl⟩
      obtain ⟨s, o⟩ := comes_ok hX r h51 hv (x1 := x1 - (σ.1 47 - x2)) (n := n) (by omega)
      generalize F_Mo_comes n σ (x1 - (σ.1 47 - x2)) = wc at *
      rcases o with ⟨o1, o2⟩ | ⟨o1, o2⟩ | ⟨o1, o2, o3, o4, o5⟩
      · subst o1
        obtain ⟨s', f⟩ := run_stop (n := n) (σ := σ) (x1 := x1) (x2 := x2) (x3 := 0) (by omega) (Or.inl rfl)
        simp only [f]
        exact ⟨⟨s, s'⟩, RFr.rfl', rfl, fun _ => ⟨_, S, K, q, F + 1, c, _, t, u, d, r, Or.inl ⟨h51, hv, rfl⟩⟩⟩
      · obtain ⟨s', st⟩ := next n wc.2 wc.1 rfl o2
        exact ⟨⟨s, s'⟩, st⟩
      · have hl0 : left ≠ 0 := by intro h; apply o2; apply Int32.toInt_inj.mp; rw [hl, h]; rfl
        by_cases h : wc.2.1 46 = 1
        · obtain ⟨M', ok'⟩ := o5 h
          have hM' := ok'.le hX
          have hleft : (x1 - (wc.2.1 47 - x2)).toInt = ((left - 1 : Nat) : Int) := by
            rw [o4]
            have : x1 - (σ.1 47 + 1 - x2) = (x1 - (σ.1 47 - x2)) - 1 := by
              apply Int32.toBitVec_inj.mp
              simp only [Int32.toBitVec_sub, Int32.toBitVec_add]
              bv_omega
            rw [this]
            generalize x1 - (σ.1 47 - x2) = y at *
            clear ih next r hv s o5 ok' o3
            ((try (simp only [vp_in, Int32.toNatClampNeg, Int32.lt_iff_toInt_lt, Int32.le_iff_toInt_le, ← Int32.toInt_inj, Int32.toInt_add, Int32.toInt_sub, Int32.toInt_mul, Int32.reduceToInt, i32_neg1, Nat.reducePow, Int.reducePow, ne_eq, ge_iff_le, gt_iff_lt] at *)) <;> (first | omega | ((simp (disch := omega) only [bm32] at *) <;> omega)))
          obtain ⟨s', r1, r2, r3⟩ := ih ((left - 1) * 50000001 + M') (by omega) n (left - 1) wc.2 wc.1 M' ok' hleft (by omega) (Nat.le_refl _) (by omega)
          exact ⟨⟨s, s'⟩, o3.trans r1, r2, r3⟩
        · obtain ⟨s', f⟩ := run_stop (n := n) (σ := wc.2) (x1 := x1) (x2 := x2) (x3 := wc.1) (by omega) (Or.inr h)
          rw [f]; exact ⟨⟨s, s'⟩, o3, rfl, fun hh => absurd hh h⟩
  · simp only [if_pos h51]
    obtain ⟨s, st⟩ := workNode_ok hX r nw (n := n) (by omega)
    obtain ⟨s', st'⟩ := next n _ x3 rfl st
    exact ⟨⟨s, s'⟩, st'⟩
/-- what the machine may be at -/
def Mach (σ : mSt) (N C : Nat) : Prop := (σ.1 36 = -1 ∨ ∃ p : Nat, (σ.1 36).toInt = p ∧ Prog σ.2.2.1 N p) ∧ (σ.1 46 = 1 → ∃ X M, X.Ok ∧ X.N ≤ N ∧ X.C ≤ C ∧ RunOk X σ M)
theorem run_ok {σ : mSt} {N C : Nat} (h : Mach σ N C) {x : Int32} {n : Nat} (hn : 11000000000 ≤ n) : S_Mo_run n σ x ∧ (∃ z : Int32, RFr (mo_si σ 4 z) (F_Mo_run n σ x).2) ∧ ((F_Mo_run n σ x).2.1 46 = 1 → ∃ X M, X.Ok ∧ X.N ≤ N ∧ X.C ≤ C ∧ RunOk X (F_Mo_run n σ x).2 M) := by
  have fail : ∀ z : Int32, z ≠ 0 → S_Mo_run_j28 n σ x z ∧ (∃ y : Int32, RFr (mo_si σ 4 y) (F_Mo_run_j28 n σ x z).2) ∧ ((F_Mo_run_j28 n σ x z).2.1 46 = 1 → ∃ X M, X.Ok ∧ X.N ≤ N ∧ X.C ≤ C ∧ RunOk X (F_Mo_run_j28 n σ x z).2 M) := by
    intro z hz
    simp only [S_Mo_run_j28, F_Mo_run_j28, si_1, if_true, if_neg hz]
    refine ⟨trivial, ⟨z, RFr.rfl'⟩, fun h46 => ?_⟩
    obtain ⟨X, M, a, b, c, S, K, q, F, c2, w, t, u, d, r, o⟩ := h.2 (by simpa [si_1, si_2, sl_1, sl_2, sl_3, ai_1, ai_2, ai_3, ai_4, al_1, al_2, al_3, al_4, cp_1, cp_2, cp_3, cp_4] using h46)
    refine ⟨X, M, a, b, c, S, K, q, F, c2, w, t, u, d, r.congr (fun k hk => by rw [si_1, if_neg (by omega)]) (fun _ _ => rfl) (fun _ _ => rfl), ?_⟩
    rcases o with ⟨o1, o2, o3⟩ | ⟨o1, nd, nw, o3⟩
    · exact Or.inl ⟨by simpa [si_1, si_2, sl_1, sl_2, sl_3, ai_1, ai_2, ai_3, ai_4, al_1, al_2, al_3, al_4, cp_1, cp_2, cp_3, cp_4] using o1, o2, o3⟩
    · exact Or.inr ⟨by simpa [si_1, si_2, sl_1, sl_2, sl_3, ai_1, ai_2, ai_3, ai_4, al_1, al_2, al_3, al_4, cp_1, cp_2, cp_3, cp_4] using o1, nd, ⟨by simpa [si_1, si_2, sl_1, sl_2, sl_3, ai_1, ai_2, ai_3, ai_4, al_1, al_2, al_3, al_4, cp_1, cp_2, cp_3, cp_4] using nw.f45, nw.good, nw.dp, nw.ty⟩, o3⟩
  simp only [S_Mo_run, F_Mo_run, S_Mo_run_j23, F_Mo_run_j23]
  by_cases h0 : σ.1 46 = 0
  · simp only [if_pos h0]; exact fail 1 (by decide)
  simp only [if_neg h0]
  by_cases hx : x < 0
  · simp only [if_pos hx]; exact fail 2 (by decide)
  simp only [if_neg hx]
  by_cases hx2 : x ≤ 200
  rotate_left
  · simp only [if_neg hx2]; exact fail 2 (by decide)
  simp only [if_pos hx2]
  simp (decide := true) only [S_Mo_run_j28, F_Mo_run_j28, si_1, if_true, if_false, mbind_eq]
  by_cases h46 : σ.1 46 = 1
  · obtain ⟨X, M, a, b, c, S, K, q, F, c2, w, t, u, d, r, o⟩ := h.2 h46
    have ok : RunOk X (mo_si σ 4 0) M := by
      refine ⟨S, K, q, F, c2, w, t, u, d, r.congr (fun k hk => by rw [si_1, if_neg (by omega)]) (fun _ _ => rfl) (fun _ _ => rfl), ?_⟩
      rcases o with ⟨o1, o2, o3⟩ | ⟨o1, nd, nw, o3⟩
      · exact Or.inl ⟨by simpa [si_1, si_2, sl_1, sl_2, sl_3, ai_1, ai_2, ai_3, ai_4, al_1, al_2, al_3, al_4, cp_1, cp_2, cp_3, cp_4] using o1, o2, o3⟩
      · exact Or.inr ⟨by simpa [si_1, si_2, sl_1, sl_2, sl_3, ai_1, ai_2, ai_3, ai_4, al_1, al_2, al_3, al_4, cp_1, cp_2, cp_3, cp_4] using o1, nd, ⟨by simpa [si_1, si_2, sl_1, sl_2, sl_3, ai_1, ai_2, ai_3, ai_4, al_1, al_2, al_3, al_4, cp_1, cp_2, cp_3, cp_4] using nw.f45, nw.good, nw.dp, nw.ty⟩, o3⟩
    have hM := ok.le a
    have hx0 : 0 ≤ x.toInt ∧ x.toInt ≤ 200 := by clear fail h r o ok; constructor <;> ((try (simp only [vp_in, Int32.toNatClampNeg, Int32.lt_iff_toInt_lt, Int32.le_iff_toInt_le, ← Int32.toInt_inj, Int32.toInt_add, Int32.toInt_sub, Int32.toInt_mul, Int32.reduceToInt, i32_neg1, Nat.reducePow, Int.reducePow, ne_eq, ge_iff_le, gt_iff_lt] at *)) <;> (first | omega | ((simp (disch := omega) only [bm32] at *) <;> omega)))
    obtain ⟨s, r1, r2, r3⟩ := run_47_ok a (x1 := x) (x2 := σ.1 47) (x.toInt.toNat * 50000001 + M) n x.toInt.toNat (mo_si σ 4 0) 1 M ok (by
      simp (decide := true) only [si_1, if_false]
      rw [Int32.sub_self, Int32.sub_zero]; omega) (by omega) (Nat.le_refl _) (by omega)
    refine ⟨⟨s, trivial⟩, ⟨0, r1⟩, fun hh => ?_⟩
    obtain ⟨M', ok'⟩ := r3 hh
    exact ⟨X, M', a, b, c, ok'⟩
  · obtain ⟨s, f⟩ := run_stop (n := n) (σ := mo_si σ 4 0) (x1 := x) (x2 := σ.1 47) (x3 := 1) (by omega) (Or.inr (by simpa [si_1, si_2, sl_1, sl_2, sl_3, ai_1, ai_2, ai_3, ai_4, al_1, al_2, al_3, al_4, cp_1, cp_2, cp_3, cp_4] using h46))
    simp only [f]
    exact ⟨⟨s, trivial⟩, ⟨0, RFr.rfl'⟩, fun hh => absurd (by simpa [si_1, si_2, sl_1, sl_2, sl_3, ai_1, ai_2, ai_3, ai_4, al_1, al_2, al_3, al_4, cp_1, cp_2, cp_3, cp_4] using hh) h46⟩
end
