-- pure rows: BF BG BH BI
section
theorem left_x {σ : mSt} {A : Nat → Nat → Int32} {x1 : Int32} {nd M F : Nat} (h1 : x1.toNatClampNeg = nd) (e14 : σ.2.2.1 14 nd = A 14 nd) (e15 : σ.2.2.1 15 nd = A 15 nd) (e16 : ∀ i, σ.2.2.1 16 i = A 16 i) (hM : (A 15 nd).toInt = M) (hF : (A 14 nd).toInt = F) (h40 : F + M ≤ 40) (e : Int32) :
    ∀ (m n k : Nat) (x4 : Int32), x4.toInt = k → k + m = M → m < n → F_Mo_unhandled_5 n σ x1 (left A nd k e) x4 = (σ, left A nd M e) := by
  intro m
  induction m with
  | zero =>
    intro n k x4 hx hk hn
    obtain ⟨n, rfl⟩ : ∃ j, n = j + 1 := ⟨n - 1, by omega⟩
    have hle : A 15 nd ≤ x4 := by clear e16; ((try (simp only [vp_in, Int32.toNatClampNeg, Int32.lt_iff_toInt_lt, Int32.le_iff_toInt_le, ← Int32.toInt_inj, Int32.toInt_add, Int32.toInt_sub, Int32.toInt_mul, Int32.reduceToInt, i32_neg1, Nat.reducePow, Int.reducePow, ne_eq, ge_iff_le, gt_iff_lt] at *)) <;> (first | omega | ((simp (disch := omega) only [bm32] at *) <;> omega)))
    simp only [F_Mo_unhandled_5, h1, e15, if_pos hle]
    rw [show k = M by omega]
  | succ m ih =>
    intro n k x4 hx hk hn
    obtain ⟨n, rfl⟩ : ∃ j, n = j + 1 := ⟨n - 1, by omega⟩
    have hle : ¬ A 15 nd ≤ x4 := by clear e16 ih; ((try (simp only [vp_in, Int32.toNatClampNeg, Int32.lt_iff_toInt_lt, Int32.le_iff_toInt_le, ← Int32.toInt_inj, Int32.toInt_add, Int32.toInt_sub, Int32.toInt_mul, Int32.reduceToInt, i32_neg1, Nat.reducePow, Int.reducePow, ne_eq, ge_iff_le, gt_iff_lt] at *)) <;> (first | omega | ((simp (disch := omega) only [bm32] at *) <;> omega)))
    have hi : (A 14 nd + x4).toNatClampNeg = F + k := by clear e16 ih; ((try (simp only [vp_in, Int32.toNatClampNeg, Int32.lt_iff_toInt_lt, Int32.le_iff_toInt_le, ← Int32.toInt_inj, Int32.toInt_add, Int32.toInt_sub, Int32.toInt_mul, Int32.reduceToInt, i32_neg1, Nat.reducePow, Int.reducePow, ne_eq, ge_iff_le, gt_iff_lt] at *)) <;> (first | omega | ((simp (disch := omega) only [bm32] at *) <;> omega)))
    have hx' : (x4 + 1).toInt = (k + 1 : Nat) := by clear e16 ih; ((try (simp only [vp_in, Int32.toNatClampNeg, Int32.lt_iff_toInt_lt, Int32.le_iff_toInt_le, ← Int32.toInt_inj, Int32.toInt_add, Int32.toInt_sub, Int32.toInt_mul, Int32.reduceToInt, i32_neg1, Nat.reducePow, Int.reducePow, ne_eq, ge_iff_le, gt_iff_lt] at *)) <;> (first | omega | ((simp (disch := omega) only [bm32] at *) <;> omega)))
    simp only [F_Mo_unhandled_5, h1, e14, e15, if_neg hle, hi, e16]
    have := ih n (k + 1) (x4 + 1) hx' (by omega) (by omega)
    have hFn : (A 14 nd).toInt.toNat = F := by omega
    simp only [left, hFn] at this
    exact this
theorem dup_x {A : Nat → Nat → Int32} {x1 x2 x4 : Int32} {q : Nat} (hq : x4.toInt = q) (h40 : q < 40) :
    ∀ (m n j : Nat) (σ : mSt) (x5 : Int32), (∀ i, σ.2.2.1 16 i = A 16 i) → x5.toInt = j → j + m = q → m < n →
    (F_Mo_beginClause_18 n σ x1 x2 x4 x5).2 = (x1, x2, x4) ∧ (F_Mo_beginClause_18 n σ x1 x2 x4 x5).1.2 = σ.2 ∧ ((F_Mo_beginClause_18 n σ x1 x2 x4 x5).1.1 34 = 0 ↔ σ.1 34 = 0 ∧ ∀ i, j ≤ i → i < q → A 16 i ≠ A 16 q) ∧ ((F_Mo_beginClause_18 n σ x1 x2 x4 x5).1.1 34 = 0 → (F_Mo_beginClause_18 n σ x1 x2 x4 x5).1 = σ) := by
  have eq : x4.toNatClampNeg = q := by show x4.toInt.toNat = q; omega
  intro m
  induction m with
  | zero =>
    intro n j σ x5 e16 hx hm hn
    obtain ⟨n, rfl⟩ : ∃ j, n = j + 1 := ⟨n - 1, by omega⟩
    have hle : x4 ≤ x5 := by clear e16; ((try (simp only [vp_in, Int32.toNatClampNeg, Int32.lt_iff_toInt_lt, Int32.le_iff_toInt_le, ← Int32.toInt_inj, Int32.toInt_add, Int32.toInt_sub, Int32.toInt_mul, Int32.reduceToInt, i32_neg1, Nat.reducePow, Int.reducePow, ne_eq, ge_iff_le, gt_iff_lt] at *)) <;> (first | omega | ((simp (disch := omega) only [bm32] at *) <;> omega)))
    simp only [F_Mo_beginClause_18, if_pos hle]
    exact ⟨trivial, trivial, ⟨fun h => ⟨h, fun i h1 h2 => by omega⟩, fun h => h.1⟩, fun _ => trivial⟩
  | succ m ih =>
    intro n j σ x5 e16 hx hm hn
    obtain ⟨n, rfl⟩ : ∃ j, n = j + 1 := ⟨n - 1, by omega⟩
    have hle : ¬ x4 ≤ x5 := by clear e16 ih; ((try (simp only [vp_in, Int32.toNatClampNeg, Int32.lt_iff_toInt_lt, Int32.le_iff_toInt_le, ← Int32.toInt_inj, Int32.toInt_add, Int32.toInt_sub, Int32.toInt_mul, Int32.reduceToInt, i32_neg1, Nat.reducePow, Int.reducePow, ne_eq, ge_iff_le, gt_iff_lt] at *)) <;> (first | omega | ((simp (disch := omega) only [bm32] at *) <;> omega)))
    have e5 : x5.toNatClampNeg = j := by show x5.toInt.toNat = j; omega
    have i5 : (x5 + 1).toInt = (j + 1 : Nat) := by clear e16 ih; ((try (simp only [vp_in, Int32.toNatClampNeg, Int32.lt_iff_toInt_lt, Int32.le_iff_toInt_le, ← Int32.toInt_inj, Int32.toInt_add, Int32.toInt_sub, Int32.toInt_mul, Int32.reduceToInt, i32_neg1, Nat.reducePow, Int.reducePow, ne_eq, ge_iff_le, gt_iff_lt] at *)) <;> (first | omega | ((simp (disch := omega) only [bm32] at *) <;> omega)))
    simp only [F_Mo_beginClause_18, if_neg hle, e5, eq, e16, mbind_eq]
    by_cases hd : A 16 j = A 16 q
    · simp only [if_pos hd]
      have w34 := wrong_34 (σ := σ) (x := 8) (y := σ.2.2.1 19 q) (by decide)
      obtain ⟨r1, r2, r3, r4⟩ := ih n (j + 1) (F_Mo_wrong σ 8 (σ.2.2.1 19 q)) (x5 + 1) (by rw [wrong_2]; exact e16) i5 (by omega) (by omega)
      rw [wrong_2] at r2
      refine ⟨r1, r2, ⟨fun h => absurd (r3.mp h).1 w34, fun h => absurd hd (h.2 j (Nat.le_refl _) (by omega))⟩, fun h => absurd (r3.mp h).1 w34⟩
    · simp only [if_neg hd]
      obtain ⟨r1, r2, r3, r4⟩ := ih n (j + 1) σ (x5 + 1) e16 i5 (by omega) (by omega)
      refine ⟨r1, r2, ⟨fun h => ⟨(r3.mp h).1, fun i h1 h2 => ?_⟩, fun h => r3.mpr ⟨h.1, fun i h1 h2 => h.2 i (by omega) h2⟩⟩, r4⟩
      by_cases hi : i = j
      · subst hi; exact hd
      · exact (r3.mp h).2 i (by omega) h2
/-- a clause begins, or the handle ends -/
theorem x_169 {A : Nat → Nat → Int32} {tk gv : Nat → Nat} {N C R root c : Nat} {σ σ2 : mSt} {τ : TT} (h : Hd A tk gv N C R root σ c τ) (hk : (A 5 (en σ c)).toInt = 8) {n : Nat} (hn : 1300 ≤ n) {ct k : Nat} {cr : Int32} (md : Md σ σ2 c τ ct cr) (hct : ct < 3 + τ.length) (ha : ∀ k, k < 26 → σ2.2.2.1 k = σ.2.2.1 k) (hf : σ2.1 34 = 0) {x1 x2 x3 : Int32} (hx1 : x1.toNatClampNeg = c) (hx2 : x2.toNatClampNeg = en σ c) (hx3 : x3.toInt = 2 + k) (hkm : k ≤ (A 15 (en σ c)).toInt.toNat) :
    Done σ c (F_Mo_checkHandle_j169 n σ2 x1 x2 x3 (A 7 (en σ c))) (clauses A tk gv τ (row σ c) (en σ c) k ct cr) := by
  have p := h.pre n
  have nd := p.nd
  have hc := p.hc
  have len := p.len
  have hK : K σ (en σ c) = 8 := by unfold K; rw [h.si.ci.arr 5 (by omega) (by omega)]; exact hk
  have hC := h.si.ok.hc
  have cf := nd.cf (by omega)
  have cm := nd.cm.1
  rw [h.si.ci.arr 14 (by omega) (by omega), h.si.ci.arr 15 (by omega) (by omega)] at cf
  rw [h.si.ci.arr 15 (by omega) (by omega)] at cm
  have arr : ∀ k i, 5 ≤ k → k ≤ 19 → σ2.2.2.1 k i = A k i := fun k i h1 h2 => by rw [ha k (by omega), h.si.ci.arr k h1 h2]
  have q9 := partN (N := N) nd.pa (nd.ha (by omega))
  have i3 : (x3 - 2).toInt = k := by clear h md arr nd p ha; ((try (simp only [vp_in, Int32.toNatClampNeg, Int32.lt_iff_toInt_lt, Int32.le_iff_toInt_le, ← Int32.toInt_inj, Int32.toInt_add, Int32.toInt_sub, Int32.toInt_mul, Int32.reduceToInt, i32_neg1, Nat.reducePow, Int.reducePow, ne_eq, ge_iff_le, gt_iff_lt] at *)) <;> (first | omega | ((simp (disch := omega) only [bm32] at *) <;> omega)))
  unfold clauses
  simp only [F_Mo_checkHandle_j169, hx1, hx2, mbind_eq, arr 15 (en σ c) (by omega) (by omega)]
  by_cases hlt : k < (A 15 (en σ c)).toInt.toNat
  · have hle : ¬ A 15 (en σ c) ≤ x3 - 2 := by rw [Int32.le_iff_toInt_le, i3]; omega
    rw [if_neg hle, if_pos hlt]
    have hq : (A 14 (en σ c) + (x3 - 2)).toInt = ((A 14 (en σ c)).toInt.toNat + k : Nat) := by clear h md arr nd p ha; ((try (simp only [vp_in, Int32.toNatClampNeg, Int32.lt_iff_toInt_lt, Int32.le_iff_toInt_le, ← Int32.toInt_inj, Int32.toInt_add, Int32.toInt_sub, Int32.toInt_mul, Int32.reduceToInt, i32_neg1, Nat.reducePow, Int.reducePow, ne_eq, ge_iff_le, gt_iff_lt] at *)) <;> (first | omega | ((simp (disch := omega) only [bm32] at *) <;> omega)))
    generalize hqd : (A 14 (en σ c)).toInt.toNat + k = qq at *
    have hqq : qq < C := by omega
    have cl := h.si.ok.cl qq hqq
    have c1 := cl.e
    have c2 := cl.x
    have c3 := cl.k
    rw [h.si.ci.arr 16 (by omega) (by omega)] at c1
    rw [h.si.ci.arr 17 (by omega) (by omega)] at c2
    rw [h.si.ci.arr 18 (by omega) (by omega)] at c3
    have ce := nd.ce (by omega) qq (by rw [h.si.ci.arr 14 (by omega) (by omega)]; omega) (by rw [h.si.ci.arr 14 (by omega) (by omega), h.si.ci.arr 15 (by omega) (by omega)]; omega)
    rw [h.si.ci.arr 19 (by omega) (by omega)] at ce
    simp only [F_Mo_beginClause, mbind_eq, hx2, arr 14 (en σ c) (by omega) (by omega)]
    obtain ⟨r1, r2, r3, r4⟩ := dup_x (A := A) (x1 := x1) (x2 := x2) (x4 := A 14 (en σ c) + (x3 - 2)) hq (by omega) k n (A 14 (en σ c)).toInt.toNat σ2 (A 14 (en σ c)) (fun i => arr 16 i (by omega) (by omega)) (by omega) (by omega) (by omega)
    generalize F_Mo_beginClause_18 n σ2 x1 x2 (A 14 (en σ c) + (x3 - 2)) (A 14 (en σ c)) = w at *
    have hdup : (∃ i, i < k ∧ A 16 ((A 14 (en σ c)).toInt.toNat + i) = A 16 qq) ↔ ¬ w.1.1 34 = 0 := by
      rw [r3]
      constructor
      · rintro ⟨i, h1, h2⟩ ⟨_, g⟩
        exact g ((A 14 (en σ c)).toInt.toNat + i) (by omega) (by omega) h2
      · intro g
        refine Classical.byContradiction (fun hne => g ⟨hf, fun i h1 h2 he => hne ⟨i - (A 14 (en σ c)).toInt.toNat, by omega, ?_⟩⟩)
        rw [show (A 14 (en σ c)).toInt.toNat + (i - (A 14 (en σ c)).toInt.toNat) = i by omega]; exact he
    by_cases h34 : w.1.1 34 = 0
    rotate_left
    · rw [if_neg h34, if_pos (hdup.mpr h34)]
      exact bad_of h34
    rw [if_pos h34, if_neg (fun hh => hdup.mp hh h34)]
    have w1 := r4 h34
    obtain ⟨wσ, wr⟩ := w
    simp only at w1 r1 ⊢
    subst w1 r1
    have yq : (A 14 (en σ c) + (x3 - 2)).toNatClampNeg = qq := by show (A 14 (en σ c) + (x3 - 2)).toInt.toNat = qq; omega
    have y16 : (A 16 qq).toNatClampNeg = (A 16 qq).toInt.toNat := rfl
    simp only [yq, hx1, hx2, arr 16 qq (by omega) (by omega), arr 7 (en σ c) (by omega) (by omega), y16]
    have ef := h.si.ef (A 16 qq).toInt.toNat (by omega)
    have e25 : wσ.2.2.1 25 (A 16 qq).toInt.toNat = σ.2.2.1 25 (A 16 qq).toInt.toNat := by rw [ha 25 (by omega)]
    have tx := md.tx
    obtain ⟨t1, t2⟩ := typeOf_x tx (by omega) (x1 := wσ.2.2.1 25 (A 16 qq).toInt.toNat) (x2 := wσ.2.2.1 28 c) (x3 := A 7 (en σ c)) (a := gv (A 16 qq).toInt.toNat) (b := ct) (by rw [e25]; exact ef.2.2.1) ef.2.2.2 md.ct hct (n := n) (by omega)
    obtain ⟨_, T', _, _, _, fr, _⟩ := typeOf_ok tx.ok (by omega) (x1 := wσ.2.2.1 25 (A 16 qq).toInt.toNat) (x2 := wσ.2.2.1 28 c) (x3 := A 7 (en σ c)) (by rw [e25, ef.2.2.1]; have := ef.2.2.2; omega) (by rw [md.ct]; omega) (n := n) (by omega)
    generalize F_Mo_typeOf n wσ (wσ.2.2.1 25 (A 16 qq).toInt.toNat) (wσ.2.2.1 28 c) (A 7 (en σ c)) = wt at *
    have md2 : Md σ wt.2 c (number τ (gv (A 16 qq).toInt.toNat, ct, A 7 (en σ c))).2 ct cr := by
      refine ⟨t2, by rw [fr.f 31 (by omega) (by omega)]; exact md.c31, by rw [fr.a 26 (by omega)]; exact md.e26, by rw [fr.a 30 (by omega)]; exact md.e30, fun k i h1 h2 hi => by rw [fr.a k (by omega)]; exact md.low k i h1 h2 hi, by rw [fr.a 27 (by omega)]; exact md.s, by rw [fr.a 28 (by omega)]; exact md.ct, by rw [fr.a 29 (by omega)]; exact md.cr⟩
    have e24 : wt.2.2.2.1 24 (A 16 qq).toInt.toNat = σ.2.2.1 24 (A 16 qq).toInt.toNat := by rw [fr.a 24 (by omega), ha 24 (by omega)]
    have e19 : wt.2.2.2.1 19 qq = A 19 qq := by rw [fr.a 19 (by omega)]; exact arr 19 qq (by omega) (by omega)
    have e17 : wt.2.2.2.1 17 qq = A 17 qq := by rw [fr.a 17 (by omega)]; exact arr 17 qq (by omega) (by omega)
    rw [e24, e19, e17]
    have m19 := h.part (parts_q (n := en σ c) (q := qq) hk (by omega) (by omega))
    have d := md2.intoWith p.hc (n := n) (by omega) (x := A 19 qq) (yy := A 17 qq) (t := σ.2.2.1 24 (A 16 qq).toInt.toNat) (by omega) m19 (by rw [fr.f 34 (by omega) (by omega)]; exact hf) (Int.toNat_of_nonneg c2.1).symm (by omega)
    have e18 : (F_Mo_intoWith n wt.2 (A 19 qq) (A 17 qq) (σ.2.2.1 24 (A 16 qq).toInt.toNat)).2.2.1 18 qq = A 18 qq := by
      obtain ⟨_, ip⟩ := into_ok (c := c + 1) (σ := wt.2) (by omega) (by have := md2.c31; omega) (n := n) (by omega) (x := A 19 qq)
      simp only [F_Mo_intoWith, mbind_eq]
      rw [ai_3, if_neg (by omega), ip.a 18 (by omega), fr.a 18 (by omega)]; exact arr 18 qq (by omega) (by omega)
    rw [e18]
    generalize F_Mo_intoWith n wt.2 (A 19 qq) (A 17 qq) (σ.2.2.1 24 (A 16 qq).toInt.toNat) = σ3 at *
    have h31 := d.2.2.1
    have hi : (10 * (σ3.1 31 - 1) + A 18 qq).toNatClampNeg = 10 * (c + 1) + (A 18 qq).toInt.toNat := by clear d p h tx arr nd md md2 fr t2 ha r3 r4 hdup e18; ((try (simp only [vp_in, Int32.toNatClampNeg, Int32.lt_iff_toInt_lt, Int32.le_iff_toInt_le, ← Int32.toInt_inj, Int32.toInt_add, Int32.toInt_sub, Int32.toInt_mul, Int32.reduceToInt, i32_neg1, Nat.reducePow, Int.reducePow, ne_eq, ge_iff_le, gt_iff_lt] at *)) <;> (first | omega | ((simp (disch := omega) only [bm32] at *) <;> omega)))
    rw [hi]
    have d2 := d.with (y := (A 18 qq).toInt.toNat) (t := wt.1) (by omega)
    rw [t1, ef.1] at d2
    exact d2
  · have hle : A 15 (en σ c) ≤ x3 - 2 := by rw [Int32.le_iff_toInt_le, i3]; omega
    rw [if_pos hle, if_neg hlt]
    have lx := left_x (σ := σ2) (A := A) (x1 := x2) (nd := en σ c) (M := (A 15 (en σ c)).toInt.toNat) (F := (A 14 (en σ c)).toInt.toNat) hx2 (arr 14 _ (by omega) (by omega)) (arr 15 _ (by omega) (by omega)) (fun i => arr 16 i (by omega) (by omega)) (by omega) (by omega) (by omega) (σ2.2.2.1 29 c) (A 15 (en σ c)).toInt.toNat n 0 0 rfl (by omega) (by omega)
    simp only [left] at lx
    simp only [F_Mo_unhandled, mbind_eq, lx, F_Mo_checkHandle_j227, hx1]
    rw [md.cr]
    by_cases hw : Within (left A (en σ c) (A 15 (en σ c)).toInt.toNat cr) (A 7 (en σ c))
    · rw [if_pos hw, if_pos hw]
      exact md.ends p.hc md.ct hf
    · rw [if_neg hw, if_neg hw]
      refine bad_of ?_
      rw [ends_34]
      exact wrong_34 (by decide)
/-- a fault stays, whatever the handle's stage does behind it -/
theorem bad_169 {A : Nat → Nat → Int32} {nd : Nat} {σ2 : mSt} (hf : σ2.1 34 ≠ 0) (arr : ∀ k i, 5 ≤ k → k ≤ 19 → σ2.2.2.1 k i = A k i) {M F k : Nat} (hM : (A 15 nd).toInt = M) (hF : (A 14 nd).toInt = F) (h40 : F + M ≤ 40) {n : Nat} (hn : 1300 ≤ n) {x1 x2 x3 x4 : Int32} (hx2 : x2.toNatClampNeg = nd) (hx3 : x3.toInt = 2 + k) (hk : k ≤ M) : (F_Mo_checkHandle_j169 n σ2 x1 x2 x3 x4).1 34 ≠ 0 := by
  have i3 : (x3 - 2).toInt = k := by clear arr; ((try (simp only [vp_in, Int32.toNatClampNeg, Int32.lt_iff_toInt_lt, Int32.le_iff_toInt_le, ← Int32.toInt_inj, Int32.toInt_add, Int32.toInt_sub, Int32.toInt_mul, Int32.reduceToInt, i32_neg1, Nat.reducePow, Int.reducePow, ne_eq, ge_iff_le, gt_iff_lt] at *)) <;> (first | omega | ((simp (disch := omega) only [bm32] at *) <;> omega)))
  simp only [F_Mo_checkHandle_j169, hx2, mbind_eq, arr 15 nd (by omega) (by omega)]
  by_cases hle : A 15 nd ≤ x3 - 2
  · rw [if_pos hle]
    have lx := left_x (σ := σ2) (A := A) (x1 := x2) (nd := nd) (M := M) (F := F) hx2 (arr 14 _ (by omega) (by omega)) (arr 15 _ (by omega) (by omega)) (fun i => arr 16 i (by omega) (by omega)) hM hF h40 (σ2.2.2.1 29 x1.toNatClampNeg) M n 0 0 rfl (by omega) (by omega)
    simp only [left] at lx
    simp only [F_Mo_unhandled, mbind_eq, lx, F_Mo_checkHandle_j227]
    split
    · rw [ends_34]; exact hf
    · rw [ends_34]; exact wrong_s hf
  · rw [if_neg hle]
    have hlt : k < M := by
      refine Classical.byContradiction (fun hh => hle ?_)
      rw [Int32.le_iff_toInt_le, i3, hM]; omega
    have hq : (A 14 nd + (x3 - 2)).toInt = (F + k : Nat) := by clear arr; ((try (simp only [vp_in, Int32.toNatClampNeg, Int32.lt_iff_toInt_lt, Int32.le_iff_toInt_le, ← Int32.toInt_inj, Int32.toInt_add, Int32.toInt_sub, Int32.toInt_mul, Int32.reduceToInt, i32_neg1, Nat.reducePow, Int.reducePow, ne_eq, ge_iff_le, gt_iff_lt] at *)) <;> (first | omega | ((simp (disch := omega) only [bm32] at *) <;> omega)))
    simp only [F_Mo_beginClause, mbind_eq, hx2, arr 14 nd (by omega) (by omega)]
    obtain ⟨r1, r2, r3, r4⟩ := dup_x (A := A) (x1 := x1) (x2 := x2) (x4 := A 14 nd + (x3 - 2)) hq (by omega) k n F σ2 (A 14 nd) (fun i => arr 16 i (by omega) (by omega)) hF (by omega) (by omega)
    generalize F_Mo_beginClause_18 n σ2 x1 x2 (A 14 nd + (x3 - 2)) (A 14 nd) = w at *
    have : ¬ w.1.1 34 = 0 := fun hh => hf (r3.mp hh).1
    rw [if_neg this]
    exact this
theorem x_handle {A : Nat → Nat → Int32} {tk gv : Nat → Nat} {N C R root c : Nat} {σ : mSt} {τ : TT} (h : Hd A tk gv N C R root σ c τ) (hk : (A 5 (en σ c)).toInt = 8) {n : Nat} (hn : 1300 ≤ n) : Done σ c (F_Mo_checkStep n σ) (stgAt A tk gv σ c τ) := by
  have p := h.pre n
  simp only [F_Mo_checkStep, p.t, p.nn, mbind_eq]
  generalize mo_ai σ 27 c (σ.2.2.1 27 c + 1) = σ1 at p ⊢
  have arr := p.arr
  have e5 : A 5 (en σ c) = 8 := by clear p arr h; ((try (simp only [vp_in, Int32.toNatClampNeg, Int32.lt_iff_toInt_lt, Int32.le_iff_toInt_le, ← Int32.toInt_inj, Int32.toInt_add, Int32.toInt_sub, Int32.toInt_mul, Int32.reduceToInt, i32_neg1, Nat.reducePow, Int.reducePow, ne_eq, ge_iff_le, gt_iff_lt] at *)) <;> (first | omega | ((simp (disch := omega) only [bm32] at *) <;> omega)))
  have hf : σ1.1 34 = 0 := by rw [p.f1]; exact h.hf
  have nd := p.nd
  have hc := p.hc
  have len := p.len
  have hK : K σ (en σ c) = 8 := by unfold K; rw [h.si.ci.arr 5 (by omega) (by omega)]; exact hk
  have c31 : (σ1.1 31).toInt = c + 1 := p.md.c31
  have tx := p.md.tx
  have q9 := partN (N := N) nd.pa (nd.ha (by omega))
  rw [h.si.ci.arr 9 (by omega) (by omega)] at q9
  have m9 := h.part (parts_a (n := en σ c) (by omega) (by omega))
  have q10 := partN (N := N) nd.pb (nd.hb (by omega))
  rw [h.si.ci.arr 10 (by omega) (by omega)] at q10
  have m10 := h.part (parts_b (n := en σ c) (by omega))
  have nm := nd.nm (by omega)
  rw [h.si.ci.arr 6 (by omega) (by omega)] at nm
  have hC := h.si.ok.hc
  have cf := nd.cf (by omega)
  have cm := nd.cm.1
  rw [h.si.ci.arr 14 (by omega) (by omega), h.si.ci.arr 15 (by omega) (by omega)] at cf
  rw [h.si.ci.arr 15 (by omega) (by omega)] at cm
  have hs := h.si.ci.st c (by omega)
  have pl : (parts A (en σ c)).length = (A 15 (en σ c)).toInt.toNat + 2 := by
    unfold parts; rw [if_neg (by omega), if_neg (by omega), if_neg (by omega), if_pos hk]
    simp only [List.length_cons, List.length_map, List.length_range]
  rw [pl] at hs
  simp (decide := true) only [arr 5 (en σ c) (by omega) (by omega), e5, if_true, if_false]
  simp only [F_Mo_checkHandle, F_Mo_checkHandle_j149, p.t, p.nn, mbind_eq, arr 9 (en σ c) (by omega) (by omega), arr 7 (en σ c) (by omega) (by omega), arr 14 (en σ c) (by omega) (by omega)]
  have sg : stgAt A tk gv σ c τ = (if es σ c = 0 then .into (A 9 (en σ c)).toInt.toNat (row σ c) (ec σ c) (σ.2.2.1 29 c) τ else if es σ c = 1 then .into (A 10 (en σ c)).toInt.toNat (env (row σ c) (A 6 (en σ c)).toInt.toNat (σ.1 32).toInt.toNat) (ec σ c) (σ.1 33) τ else if es σ c = 2 then (if Within (σ.1 33) (A 7 (en σ c)) then clauses A tk gv τ (row σ c) (en σ c) 0 (σ.1 32).toInt.toNat (σ.2.2.1 29 c) else .bad) else (if suit τ (σ.1 32).toInt.toNat (ec σ c) ∧ Within (σ.1 33) (A 7 (en σ c)) then clauses A tk gv τ (row σ c) (en σ c) (es σ c - 2) (ec σ c) (σ.2.2.1 29 c) else .bad)) := by
    unfold stgAt stg; simp only
    rw [if_neg (by omega), if_neg (by omega), if_neg (by omega), if_neg (by omega), if_neg (by omega), if_neg (by omega), if_neg (by omega), if_neg (by omega), if_pos hk]
  rw [sg]
  by_cases s0 : σ.2.2.1 27 c = 0
  · rw [if_pos s0, if_pos (es0 s0)]
    exact p.md.into p.hc (by omega) q9 m9 hf
  rw [if_neg s0, if_neg (ens0 s0 p.stg)]
  have f32 := p.f32 s0
  by_cases s1 : σ.2.2.1 27 c = 1
  · rw [if_pos s1, if_pos (es1 s1)]
    have e10 : (mo_ai σ1 29 c (σ1.1 33)).2.2.1 10 (en σ c) = A 10 (en σ c) := by rw [ai_3, if_neg (by omega)]; exact arr 10 _ (by omega) (by omega)
    have e6 : (mo_ai σ1 29 c (σ1.1 33)).2.2.1 6 (en σ c) = A 6 (en σ c) := by rw [ai_3, if_neg (by omega)]; exact arr 6 _ (by omega) (by omega)
    rw [e10, e6, ai_1]
    have d := (p.md.set29 (σ1.1 33)).intoWith p.hc (n := n) (by omega) (x := A 10 (en σ c)) (yy := A 6 (en σ c)) (t := σ1.1 32) q10 m10 hf (Int.toNat_of_nonneg nm.1).symm (by omega)
    rw [p.f1] at d ⊢
    rw [show (σ.1 32).toInt = ((σ.1 32).toInt.toNat : Int) by omega] at d
    exact d
  rw [if_neg s1, if_neg (ens1 s1 p.stg)]
  by_cases s2 : σ.2.2.1 27 c = 2
  · rw [if_pos s2, if_pos (es2 s2)]
    have md2 := p.md.set28 (x := σ1.1 32) (t := (σ.1 32).toInt.toNat) (by rw [p.f1]; omega)
    have e33 : (mo_ai σ1 28 c (σ1.1 32)).1 33 = σ.1 33 := by rw [ai_1, p.f1]
    rw [e33]
    have ha : ∀ k, k < 26 → (mo_ai σ1 28 c (σ1.1 32)).2.2.1 k = σ.2.2.1 k := fun k hk => by funext i; rw [ai_3, if_neg (by omega), p.a1 k (by omega)]
    by_cases hw : Within (σ.1 33) (A 7 (en σ c))
    · rw [if_pos hw, if_pos hw]
      exact x_169 h hk hn md2 (by omega) ha hf p.t p.nn (by rw [s2]; rfl) (by omega)
    · rw [if_neg hw, if_neg hw]
      refine bad_of (bad_169 (nd := en σ c) (A := A) (M := (A 15 (en σ c)).toInt.toNat) (F := (A 14 (en σ c)).toInt.toNat) (k := 0) (wrong_34 (by decide)) (fun k i h1 h2 => by rw [wrong_2, ha k (by omega), h.si.ci.arr k h1 h2]) (by omega) (by omega) (by omega) hn p.nn (by rw [s2]; rfl) (by omega))
  rw [if_neg s2, if_neg (ens2 s2 p.stg)]
  -- behind a clause
  have es3 : 3 ≤ es σ c := by have a0 := ens0 s0 p.stg; have a1 := ens1 s1 p.stg; have a2 := ens2 s2 p.stg; omega
  have esv : (σ.2.2.1 27 c).toInt = 2 + (es σ c - 2 : Nat) := by unfold es at *; omega
  have ct := p.md.ct
  have hct : ec σ c < 3 + τ.length := by
    obtain hw | ⟨g, m, t, w, ty, ft, ht⟩ := h.si.ci.top c rfl
    · exact absurd hw (ens0 s0 p.stg)
    · generalize hS : es σ c = s at w es3
      cases w using Wj.cs <;> first | assumption | omega
  have kle : es σ c - 2 ≤ (A 15 (en σ c)).toInt.toNat := by unfold es at *; omega
  have fa := fit_at (x := σ1.1 32) (y := σ1.2.2.1 28 c) (a := (σ.1 32).toInt.toNat) (b := ec σ c) tx len (by rw [p.f1]; omega) (by omega) ct hct
  have ha : ∀ k, k < 26 → σ1.2.2.1 k = σ.2.2.1 k := fun k hk => p.a1 k (by omega)
  have bad : ∀ σ2 : mSt, σ2.1 34 ≠ 0 → σ2.2 = σ1.2 → (F_Mo_checkHandle_j169 n σ2 (σ.1 31 - 1) (σ.2.2.1 26 c) (σ.2.2.1 27 c) (A 7 (en σ c))).1 34 ≠ 0 := by
    intro σ2 h1 h2
    exact bad_169 (nd := en σ c) (A := A) (M := (A 15 (en σ c)).toInt.toNat) (F := (A 14 (en σ c)).toInt.toNat) (k := es σ c - 2) h1 (fun k i g1 g2 => by rw [h2]; exact arr k i g1 g2) (by omega) (by omega) (by omega) hn p.nn esv kle
  by_cases hsu : suit τ (σ.1 32).toInt.toNat (ec σ c)
  · have hz : ¬ σ1.2.2.1 23 (520 * σ1.1 32 + σ1.2.2.1 28 c).toNatClampNeg = 0 := by rw [fa]; exact fun hh => hh hsu
    rw [if_neg hz]
    have e33 : σ1.1 33 = σ.1 33 := by rw [p.f1]
    rw [e33]
    by_cases hw : Within (σ.1 33) (A 7 (en σ c))
    · rw [if_pos hw, if_pos (show suit τ (σ.1 32).toInt.toNat (ec σ c) ∧ Within (σ.1 33) (A 7 (en σ c)) from ⟨hsu, hw⟩)]
      exact x_169 h hk hn p.md hct ha hf p.t p.nn esv kle
    · rw [if_neg hw, if_neg (show ¬ (suit τ (σ.1 32).toInt.toNat (ec σ c) ∧ Within (σ.1 33) (A 7 (en σ c))) from fun hh => hw hh.2)]
      exact bad_of (bad _ (wrong_34 (by decide)) wrong_2)
  · rw [if_pos (fa.mpr hsu), if_neg (show ¬ (suit τ (σ.1 32).toInt.toNat (ec σ c) ∧ Within (σ.1 33) (A 7 (en σ c))) from fun hh => hsu hh.1)]
    refine bad_of ?_
    split
    · exact bad _ (wrong_34 (by decide)) wrong_2
    · exact bad _ (wrong_34 (by decide)) (by rw [wrong_2, wrong_2])
theorem x_any {A : Nat → Nat → Int32} {tk gv : Nat → Nat} {N C R root c : Nat} {σ : mSt} {τ : TT} (h : Hd A tk gv N C R root σ c τ) {n : Nat} (hn : 1300 ≤ n) : Done σ c (F_Mo_checkStep n σ) (stgAt A tk gv σ c τ) := by
  have hk : 0 ≤ (A 5 (en σ c)).toInt ∧ (A 5 (en σ c)).toInt ≤ 11 := by
    have := (h.si.ok.nd (en σ c) h.si.start.hn).k
    unfold K at this
    rw [h.si.ci.arr 5 (by omega) (by omega)] at this
    exact this
  by_cases h0 : (A 5 (en σ c)).toInt ≤ 3
  · exact x_atom h h0 (by omega)
  by_cases h1 : (A 5 (en σ c)).toInt = 4
  · exact x_let h h1 (by omega)
  by_cases h1 : (A 5 (en σ c)).toInt = 5
  · exact x_rec h h1 hn
  by_cases h1 : (A 5 (en σ c)).toInt = 6
  · exact x_if h h1 hn
  by_cases h1 : (A 5 (en σ c)).toInt = 7
  · exact x_fn h h1 hn
  by_cases h1 : (A 5 (en σ c)).toInt = 8
  · exact x_handle h h1 hn
  by_cases h1 : (A 5 (en σ c)).toInt = 9
  · exact x_two h h1 hn
  by_cases h1 : (A 5 (en σ c)).toInt = 10
  · exact x_call h h1 hn
  · exact x_perform h (by omega) hn
end
section
/-! pure rows: the reference's checking finds what the function says -/
theorem stg_0 {A : Nat → Nat → Int32} {tk gv : Nat → Nat} {τ : TT} {g : Nat → Int} {n ct : Nat} {cr : Int32} (t t' : Nat) (e e' : Int32) : stg A tk gv τ g n 0 ct cr t e = stg A tk gv τ g n 0 ct cr t' e' := by
  unfold stg
  simp only [if_true]
theorem rest_0' {A : Nat → Nat → Int32} {tk gv : Nat → Nat} {τ : TT} {g : Nat → Int} {n ct : Nat} {cr : Int32} (E : TT → (Nat → Int) → Nat → Res) (j : Nat) (t t' : Nat) (e e' : Int32) : rest A tk gv E g n (j + 1) τ 0 ct cr t e = rest A tk gv E g n (j + 1) τ 0 ct cr t' e' := by
  simp only [rest, stg_0 t t' e e']
theorem rest_0 {A : Nat → Nat → Int32} {tk gv : Nat → Nat} {τ : TT} {g : Nat → Int} {n : Nat} (t : Nat) (e : Int32) : rest A tk gv (ev A tk gv) g n 50 τ 0 0 0 t e = ev A tk gv τ g n := by
  rw [ev_eq]
  exact rest_0' _ 49 t 0 e 0
/-- what an act comes to -/
noncomputable def ofAct (A : Nat → Nat → Int32) (tk gv : Nat → Nat) (g : Nat → Int) (n j s : Nat) (act : Act) : Res := match act with
  | none => none
  | some (.inr (t, e, τ)) => some (t, e, τ)
  | some (.inl (m, g', ct', cr', τ')) => if m < n then (ev A tk gv τ' g' m).bind (fun r => rest A tk gv (ev A tk gv) g n j r.2.2 (s + 1) ct' cr' r.1 r.2.1) else none
theorem rest_s {A : Nat → Nat → Int32} {tk gv : Nat → Nat} {τ : TT} {g : Nat → Int} {n s ct : Nat} {cr : Int32} (j : Nat) (t : Nat) (e : Int32) : rest A tk gv (ev A tk gv) g n (j + 1) τ s ct cr t e = ofAct A tk gv g n j s (stg A tk gv τ g n s ct cr t e) := by
  simp only [rest, ofAct]
  cases stg A tk gv τ g n s ct cr t e <;> rfl
section Ko
variable (A : Nat → Nat → Int32) (tk gv : Nat → Nat)
/-- what the entries below make of a part's result -/
noncomputable def kont (σ : mSt) : Nat → Res → Res
  | 0, r => r
  | i + 1, r => kont σ i (r.bind (fun x => rest A tk gv (ev A tk gv) (row σ i) (en σ i) (50 - es σ i) x.2.2 (es σ i) (ec σ i) (σ.2.2.1 29 i) x.1 x.2.1))
/-- what the top entry comes to -/
noncomputable def topv (σ : mSt) (c : Nat) (τ : TT) : Res := rest A tk gv (ev A tk gv) (row σ c) (en σ c) (50 - es σ c) τ (es σ c) (ec σ c) (σ.2.2.1 29 c) (σ.1 32).toInt.toNat (σ.1 33)
/-- what the checking will come to -/
noncomputable def comesTo (σ : mSt) (c : Nat) (τ : TT) : Res := match c with
  | 0 => some ((σ.1 32).toInt.toNat, σ.1 33, τ)
  | c + 1 => kont A tk gv σ c (topv A tk gv σ c τ)
end Ko
theorem kont_none {A : Nat → Nat → Int32} {tk gv : Nat → Nat} {σ : mSt} : ∀ {i : Nat}, kont A tk gv σ i none = none
  | 0 => rfl
  | i + 1 => by simp only [kont, Option.bind_none]; exact kont_none
theorem kont_congr {A : Nat → Nat → Int32} {tk gv : Nat → Nat} {σ σ' : mSt} : ∀ {c : Nat} (r : Res), Low σ σ' c → kont A tk gv σ' c r = kont A tk gv σ c r := by
  intro c
  induction c with
  | zero => intros; rfl
  | succ c ih =>
    intro r h
    have h' : Low σ σ' c := ⟨fun k i h1 h2 hi => h.e k i h1 h2 (by omega), fun i hi => h.r i (by omega)⟩
    simp only [kont]
    rw [ih _ h']
    have e1 : row σ' c = row σ c := row_congr (fun k hk => h.r _ (by omega))
    have e2 : en σ' c = en σ c := by unfold en; rw [h.e 26 c (by omega) (by omega) (by omega)]
    have e3 : es σ' c = es σ c := by unfold es; rw [h.e 27 c (by omega) (by omega) (by omega)]
    have e4 : ec σ' c = ec σ c := by unfold ec; rw [h.e 28 c (by omega) (by omega) (by omega)]
    rw [e1, e2, e3, e4, h.e 29 c (by omega) (by omega) (by omega)]
/-- a step keeps what it will come to -/
theorem step_comes {A : Nat → Nat → Int32} {tk gv : Nat → Nat} {N C R root c : Nat} {σ : mSt} {τ : TT} (h : Hd A tk gv N C R root σ c τ) (hes : es σ c ≤ 45) {σ' : mSt} (d : Done σ c σ' (stgAt A tk gv σ c τ)) :
    (σ'.1 34 ≠ 0 → comesTo A tk gv σ (c + 1) τ = none) ∧ (σ'.1 34 = 0 → ∃ (c' : Nat) (τ' : TT), (σ'.1 31).toInt = c' ∧ TX σ' τ' ∧ comesTo A tk gv σ' c' τ' = comesTo A tk gv σ (c + 1) τ) := by
  have hj : 50 - es σ c = (50 - (es σ c + 1)) + 1 := by omega
  generalize hact : stgAt A tk gv σ c τ = act at d
  have tv : topv A tk gv σ c τ = ofAct A tk gv (row σ c) (en σ c) (50 - (es σ c + 1)) (es σ c) act := by
    unfold topv
    rw [hj, rest_s, ← hact]
  cases act using Act.cs with
  | bad =>
    refine ⟨fun _ => ?_, fun hh => absurd hh d⟩
    show kont A tk gv σ c (topv A tk gv σ c τ) = none
    rw [tv]; simp only [ofAct]; exact kont_none
  | ends t e τ' =>
    obtain ⟨d1, d2, d3, d4, d5, d6⟩ := d
    refine ⟨fun hh => absurd d1 hh, fun _ => ⟨c, τ', d5, d2, ?_⟩⟩
    show _ = kont A tk gv σ c (topv A tk gv σ c τ)
    rw [tv]
    simp only [ofAct]
    cases c with
    | zero => simp only [comesTo, kont, ofAct]; rw [d3, d4, Int.toNat_natCast]
    | succ c =>
      show kont A tk gv σ' c (topv A tk gv σ' c τ') = kont A tk gv σ (c + 1) (some (t, e, τ'))
      have d6' : Low σ σ' c := ⟨fun k i h1 h2 hi => d6.e k i h1 h2 (by omega), fun i hi => d6.r i (by omega)⟩
      rw [kont_congr _ d6']
      simp only [kont, Option.bind_some, topv]
      have e1 : row σ' c = row σ c := row_congr (fun k hk => d6.r _ (by omega))
      have e2 : en σ' c = en σ c := by unfold en; rw [d6.e 26 c (by omega) (by omega) (by omega)]
      have e3 : es σ' c = es σ c := by unfold es; rw [d6.e 27 c (by omega) (by omega) (by omega)]
      have e4 : ec σ' c = ec σ c := by unfold ec; rw [d6.e 28 c (by omega) (by omega) (by omega)]
      rw [e1, e2, e3, e4, d6.e 29 c (by omega) (by omega) (by omega), d3, d4, Int.toNat_natCast]
  | into m g' ct' cr' τ' =>
    obtain ⟨d1, d2, d3, d4, ⟨a1, a2, a3, a4, a5⟩, ⟨b1, b2, b3, b4, b5⟩, d5⟩ := d
    refine ⟨fun hh => absurd d1 hh, fun _ => ⟨c + 2, τ', d3, d2, ?_⟩⟩
    show kont A tk gv σ' (c + 1) (topv A tk gv σ' (c + 1) τ') = kont A tk gv σ c (topv A tk gv σ c τ)
    rw [tv]
    simp only [ofAct, if_pos d5, kont]
    rw [kont_congr _ d4]
    congr 1
    have t0 : topv A tk gv σ' (c + 1) τ' = ev A tk gv τ' g' m := by
      unfold topv
      have e1 : en σ' (c + 1) = m := by unfold en; rw [b1]; omega
      have e2 : es σ' (c + 1) = 0 := by unfold es; rw [b2]; rfl
      have e3 : ec σ' (c + 1) = 0 := by unfold ec; rw [b3]; rfl
      rw [b5, e1, e2, e3, b4]
      exact rest_0 _ _
    rw [t0]
    have e1 : en σ' c = en σ c := by unfold en; rw [a1]
    have e2 : es σ' c = es σ c + 1 := by
      have : (es σ' c : Int) = es σ c + 1 := by rw [← a2]; unfold es; omega
      omega
    have e3 : ec σ' c = ct' := by unfold ec; rw [a3]; omega
    rw [a5, e1, e2, e3, a4]
theorem stage_le {A : Nat → Nat → Int32} {tk gv : Nat → Nat} {N C R root c T : Nat} {σ : mSt} (h : SI A tk gv N C R root σ (c + 1) T) : es σ c ≤ 45 := by
  have hs := h.ci.st c (by omega)
  have hl : (parts A (en σ c)).length ≤ 42 := by
    rw [← parts_congr h.ci.arr]; exact parts_len h.ok h.start.hn
  unfold es; omega
theorem check_93_x {A : Nat → Nat → Int32} {tk gv : Nat → Nat} {N C R root : Nat} {x1 x2 : Int32} : ∀ (m : Nat) (σ : mSt) (c : Nat) (τ : TT) (n : Nat), SI A tk gv N C R root σ c (3 + τ.length) → TX σ τ → σ.1 34 = 0 → mu A σ c ≤ m → m + 1300 < n →
    ((F_Mo_check_93 n σ x1 x2).1.1 34 ≠ 0 → comesTo A tk gv σ c τ = none) ∧ ((F_Mo_check_93 n σ x1 x2).1.1 34 = 0 → ∃ τ', TX (F_Mo_check_93 n σ x1 x2).1 τ' ∧ comesTo A tk gv σ c τ = some (((F_Mo_check_93 n σ x1 x2).1.1 32).toInt.toNat, (F_Mo_check_93 n σ x1 x2).1.1 33, τ')) := by
  intro m
  induction m using Nat.strongRecOn with
  | _ m ih =>
    intro σ c τ n h tx hf hm hn
    obtain ⟨n, rfl⟩ : ∃ k, n = k + 1 := ⟨n - 1, by omega⟩
    simp only [F_Mo_check_93, mbind_eq]
    have c31 := h.ci.c31
    by_cases hc : σ.1 31 ≤ 0
    · have : c = 0 := by clear ih h tx; ((try (simp only [vp_in, Int32.toNatClampNeg, Int32.lt_iff_toInt_lt, Int32.le_iff_toInt_le, ← Int32.toInt_inj, Int32.toInt_add, Int32.toInt_sub, Int32.toInt_mul, Int32.reduceToInt, i32_neg1, Nat.reducePow, Int.reducePow, ne_eq, ge_iff_le, gt_iff_lt] at *)) <;> (first | omega | ((simp (disch := omega) only [bm32] at *) <;> omega)))
      subst this
      simp only [if_pos hc]
      exact ⟨fun hh => absurd hf hh, fun _ => ⟨τ, tx, rfl⟩⟩
    simp only [if_neg hc, if_pos hf]
    obtain ⟨c, rfl⟩ : ∃ k, c = k + 1 := ⟨c - 1, by clear ih h tx; ((try (simp only [vp_in, Int32.toNatClampNeg, Int32.lt_iff_toInt_lt, Int32.le_iff_toInt_le, ← Int32.toInt_inj, Int32.toInt_add, Int32.toInt_sub, Int32.toInt_mul, Int32.reduceToInt, i32_neg1, Nat.reducePow, Int.reducePow, ne_eq, ge_iff_le, gt_iff_lt] at *)) <;> (first | omega | ((simp (disch := omega) only [bm32] at *) <;> omega)))⟩
    have hd : Hd A tk gv N C R root σ c τ := ⟨h, tx, hf⟩
    obtain ⟨s, T', t1, t2, fr, good⟩ := step_any h hf (n := n) (by omega)
    obtain ⟨b1, b2⟩ := step_comes hd (stage_le h) (x_any hd (n := n) (by omega))
    generalize F_Mo_checkStep n σ = σ' at *
    by_cases hf' : σ'.1 34 = 0
    · obtain ⟨c', ci, hmu⟩ := good hf'
      obtain ⟨c2, τ', e31, tx', e⟩ := b2 hf'
      have : c2 = c' := by have := ci.c31; omega
      subst this
      have eT : T' = 3 + τ'.length := by have := t1.n; have := tx'.ok.n; omega
      subst eT
      have h' := h.next t2 fr ci
      rw [← e]
      exact ih (mu A σ' c2) (by omega) σ' c2 τ' n h' tx' hf' (Nat.le_refl _) (by omega)
    · obtain ⟨n, rfl⟩ : ∃ k, n = k + 1 := ⟨n - 1, by omega⟩
      have e2 : F_Mo_check_93 (n + 1) σ' x1 x2 = (σ', x1, x2) := by simp only [F_Mo_check_93, if_neg hf', ite_self]
      rw [e2]
      exact ⟨fun _ => b1 hf', fun hh => absurd hh hf'⟩
end
section
/-! pure rows: check and function, exactly -/
abbrev tks (σ : mSt) : Nat → Nat := fun e => (σ.2.2.1 24 e).toInt.toNat
abbrev gvs (σ : mSt) : Nat → Nat := fun e => (σ.2.2.1 25 e).toInt.toNat
/-- what check finds of node x -/
noncomputable def found (σ : mSt) (τ : TT) (x : Nat) : Res := ev σ.2.2.1 (tks σ) (gvs σ) τ (fun _ => -1) x
/-- the node is there and not too large -/
def CkG (σ : mSt) (N : Nat) (x : Int32) : Prop := Is N x ∧ (σ.2.2.1 12 x.toInt.toNat).toInt ≤ 400 ∧ (σ.2.2.1 13 x.toInt.toNat).toInt ≤ 40
def CheckedX (σ : mSt) (N : Nat) (τ : TT) (x : Int32) (w : Int32 × mSt) : Prop := (¬ Is N x → w.2 = mo_si σ 4 1) ∧ (Is N x → ¬ CkG σ N x → w.2 = mo_si σ 4 2) ∧ (CkG σ N x → ∀ t e τ', found σ τ x.toInt.toNat = some (t, e, τ') → τ'.length ≤ 60 → w.1.toInt = t ∧ w.2.1 4 = 0 ∧ TX w.2 τ' ∧ w.2.1 36 = x) ∧ (CkG σ N x → (∀ t e τ', found σ τ x.toInt.toNat = some (t, e, τ') → ¬ τ'.length ≤ 60) → w.2.1 4 = 3 ∧ TX w.2 τ ∧ w.2.1 36 = -1) ∧ (∀ k, (k < 20 ∨ k = 24 ∨ k = 25 ∨ 40 ≤ k) → w.2.2.2.1 k = σ.2.2.1 k)
theorem CheckedX.no {σ : mSt} {N : Nat} {τ : TT} {x : Int32} {w : Int32 × mSt} (self : CheckedX σ N τ x w) : ¬ Is N x → w.2 = mo_si σ 4 1 := self.1
theorem CheckedX.big {σ : mSt} {N : Nat} {τ : TT} {x : Int32} {w : Int32 × mSt} (self : CheckedX σ N τ x w) : Is N x → ¬ CkG σ N x → w.2 = mo_si σ 4 2 := self.2.1
theorem CheckedX.ok {σ : mSt} {N : Nat} {τ : TT} {x : Int32} {w : Int32 × mSt} (self : CheckedX σ N τ x w) : CkG σ N x → ∀ t e τ', found σ τ x.toInt.toNat = some (t, e, τ') → τ'.length ≤ 60 → w.1.toInt = t ∧ w.2.1 4 = 0 ∧ TX w.2 τ' ∧ w.2.1 36 = x := self.2.2.1
theorem CheckedX.bad {σ : mSt} {N : Nat} {τ : TT} {x : Int32} {w : Int32 × mSt} (self : CheckedX σ N τ x w) : CkG σ N x → (∀ t e τ', found σ τ x.toInt.toNat = some (t, e, τ') → ¬ τ'.length ≤ 60) → w.2.1 4 = 3 ∧ TX w.2 τ ∧ w.2.1 36 = -1 := self.2.2.2.1
theorem CheckedX.keep {σ : mSt} {N : Nat} {τ : TT} {x : Int32} {w : Int32 × mSt} (self : CheckedX σ N τ x w) : ∀ k, (k < 20 ∨ k = 24 ∨ k = 25 ∨ 40 ≤ k) → w.2.2.2.1 k = σ.2.2.1 k := self.2.2.2.2
theorem check_x {σ : mSt} {N C R : Nat} {τ : TT} (hX : TX σ τ) (hT63 : 3 + τ.length ≤ 63) (hN : NOk σ N C R (3 + τ.length)) (hE : EOk σ (3 + τ.length)) {x : Int32} {n : Nat} (hn : 3000 ≤ n) : CheckedX σ N τ x (F_Mo_check n σ x) := by
  have hT := hX.ok
  simp only [F_Mo_check, mbind_eq, isNode_F hN.n]
  have hnn := hN.hn
  by_cases hx : Is N x
  rotate_left
  · simp only [if_neg hx, if_true, F_Mo_check_j41, si_1, show ¬ ((1 : Int32) = 0) by decide, if_false]
    exact ⟨fun _ => rfl, fun h => absurd h hx, fun h => absurd h.1 hx, fun h => absurd h.1 hx, fun k hk => rfl⟩
  simp only [if_pos hx, show ¬ ((1 : Int32) = 0) by decide, if_false]
  have j36 : F_Mo_check_j36 n σ x = (0, mo_si σ 4 2) := by
    simp only [F_Mo_check_j36, F_Mo_check_j41, si_1, if_true, show ¬ ((2 : Int32) = 0) by decide, if_false]
  have xN : x.toNatClampNeg = x.toInt.toNat := rfl
  rw [xN]
  have c400 : (400 : Int32).toInt = 400 := rfl
  have c40 : (40 : Int32).toInt = 40 := rfl
  by_cases h12 : 400 < σ.2.2.1 12 x.toInt.toNat
  · have : ¬ CkG σ N x := fun g => by have := g.2.1; rw [Int32.lt_iff_toInt_lt, c400] at h12; omega
    simp only [if_pos h12, j36]
    exact ⟨fun h => absurd hx h, fun _ _ => rfl, fun h => absurd h this, fun h => absurd h this, fun k hk => rfl⟩
  simp only [if_neg h12]
  by_cases h13 : σ.2.2.1 13 x.toInt.toNat ≤ 40
  rotate_left
  · have : ¬ CkG σ N x := fun g => by have := g.2.2; rw [Int32.le_iff_toInt_le, c40] at h13; omega
    simp only [if_neg h13, j36]
    exact ⟨fun h => absurd hx h, fun _ _ => rfl, fun h => absurd h this, fun h => absurd h this, fun k hk => rfl⟩
  simp only [if_pos h13]
  have z1 : (σ.2.2.1 12 x.toInt.toNat).toInt ≤ 400 := by rw [Int32.lt_iff_toInt_lt, c400] at h12; omega
  have z2 : (σ.2.2.1 13 x.toInt.toNat).toInt ≤ 40 := by rw [Int32.le_iff_toInt_le, c40] at h13; omega
  have hg : CkG σ N x := ⟨hx, z1, z2⟩
  have xx : 0 ≤ x.toInt ∧ x.toInt < N := hx
  simp only [F_Mo_check_j41, si_1, if_true, mbind_eq, show ¬ ((3 : Nat) = 4) by decide, if_false]
  have tab := TabOk.of hN
  generalize hs0 : mo_si (mo_si (mo_si (mo_si (mo_si (mo_si (mo_si σ 4 0) 34 0) 35 (-1)) 39 1) 36 (-1)) 46 0) 31 0 = σ0
  have f0 : ∀ k, k < 4 → σ0.1 k = σ.1 k := by
    intro k hk; rw [← hs0]; simp only [si_1]; repeat rw [if_neg (by omega)]
  have a0 : σ0.2 = σ.2 := by rw [← hs0]; rfl
  have t0 : TOk σ0 (3 + τ.length) := hT.congr (f0 3 (by omega)) (fun k _ _ => by rw [a0])
  have tx0 : TX σ0 τ := hX.congr (f0 3 (by omega)) (fun k _ _ => by rw [a0])
  have n0 : NOk σ0 N C R (3 + τ.length) := hN.congr (Nat.le_refl _) (fun k hk => f0 k (by omega)) (fun k _ _ => by rw [a0])
  have p0 : σ0.1 36 = -1 := by rw [← hs0]; simp [si_1, si_2, sl_1, sl_2, sl_3, ai_1, ai_2, ai_3, ai_4, al_1, al_2, al_3, al_4, cp_1, cp_2, cp_3, cp_4]
  have r0 : σ0.1 34 = 0 := by rw [← hs0]; simp [si_1, si_2, sl_1, sl_2, sl_3, ai_1, ai_2, ai_3, ai_4, al_1, al_2, al_3, al_4, cp_1, cp_2, cp_3, cp_4]
  have c0 : (σ0.1 31).toInt = 0 := by rw [← hs0]; simp [si_1, si_2, sl_1, sl_2, sl_3, ai_1, ai_2, ai_3, ai_4, al_1, al_2, al_3, al_4, cp_1, cp_2, cp_3, cp_4]
  clear hs0
  obtain ⟨_, ip⟩ := into_ok (c := 0) (σ := σ0) (by omega) c0 (n := n) (by omega) (x := x)
  have i29 := into_29 (c := 0) (σ := σ0) c0 (by omega) (n := n) (by omega) (x := x)
  generalize F_Mo_into n σ0 x = σ1 at *
  have t1 : TOk σ1 (3 + τ.length) := t0.congr (ip.f 3 (by decide)) (fun k _ _ => ip.a k (by omega))
  have tx1 : TX σ1 τ := tx0.congr (ip.f 3 (by decide)) (fun k _ _ => ip.a k (by omega))
  have en0 : en σ1 0 = x.toInt.toNat := by unfold en; rw [ip.nd]
  have es0' : es σ1 0 = 0 := by unfold es; rw [ip.st]; rfl
  have ec0 : ec σ1 0 = 0 := by unfold ec; rw [ip.ty]; rfl
  have row0 : row σ1 0 = fun _ => -1 := by
    funext k; unfold row; split
    · rename_i hk; have := ip.new k hk; rw [this]; rfl
    · rfl
  have arr : ∀ k, 5 ≤ k → k ≤ 19 → σ1.2.2.1 k = σ.2.2.1 k := fun k _ _ => by rw [ip.a k (by omega), a0]
  have pn := pot_new tab (m := x.toInt.toNat) (by omega) (by omega)
  have ci : CI σ.2.2.1 (tks σ) (gvs σ) N x.toInt.toNat σ1 1 (3 + τ.length) := by
    refine ⟨t1, arr, ip.f31, ?_, ?_, ?_, ?_, ?_, ?_, ?_, fun _ => ⟨en0, row0⟩, ?_, fun h => absurd h (by decide), ?_⟩
    · intro i hi; have : i = 0 := by omega
      subst this; rw [ip.nd]; exact xx
    · intro i hi; have : i = 0 := by omega
      subst this; rw [ip.st]; simp [si_1, si_2, sl_1, sl_2, sl_3, ai_1, ai_2, ai_3, ai_4, al_1, al_2, al_3, al_4, cp_1, cp_2, cp_3, cp_4]
    · intro i hi; have : i = 0 := by omega
      subst this; rw [en0]; omega
    · intro i hi; have : i = 0 := by omega
      subst this; rw [en0]; omega
    · intro i hi; have : i = 0 := by omega
      subst this; rw [ip.ty]; decide
    · intro i hi k hk; have : i = 0 := by omega
      subst this
      have := ip.new k hk
      rw [this, if_pos rfl]; simp only [i32_neg1]; omega
    · intro i hi; omega
    · intro i hi; have : i = 0 := by omega
      subst this; exact Or.inl es0'
    · simp only [sumTo, en0, es0']; omega
  have si1 : SI σ.2.2.1 (tks σ) (gvs σ) N C R x.toInt.toNat σ1 1 (3 + τ.length) := by
    refine ⟨ci, n0.congr (Nat.le_refl _) (fun k hk => ip.f k (by omega)) (fun k _ _ => ip.a k (by omega)), fun e he => ?_, tab⟩
    have := hE e he
    unfold Is at this
    unfold tks gvs
    rw [ip.a 24 (by omega), ip.a 25 (by omega), a0]
    omega
  have hmu : mu σ.2.2.1 σ1 1 ≤ 1000 := by simp only [mu, sumTo, en0, es0']; omega
  have f34 : σ1.1 34 = 0 := by rw [ip.f 34 (by decide)]; exact r0
  obtain ⟨_, T', g1, g2, g3, g4, g5⟩ := check_93_ok (x1 := x) (x2 := σ.1 3) 1000 σ1 1 (3 + τ.length) n si1 hmu (by omega)
  obtain ⟨y1, y2⟩ := check_93_x (x1 := x) (x2 := σ.1 3) 1000 σ1 1 τ n si1 tx1 f34 hmu (by omega)
  have cm : comesTo σ.2.2.1 (tks σ) (gvs σ) σ1 1 τ = found σ τ x.toInt.toNat := by
    show topv σ.2.2.1 (tks σ) (gvs σ) σ1 0 τ = _
    unfold topv found
    rw [row0, en0, es0', ec0, i29]
    exact rest_0 _ _
  rw [cm] at y1 y2
  generalize hw : F_Mo_check_93 n σ1 x (σ.1 3) = w at *
  obtain ⟨σ2, w2⟩ := w
  simp only at g1 g2 g4 g5 y1 y2 ⊢
  subst g1
  simp only
  have fr1 : CkFr (3 + τ.length) σ0 σ1 := CkFr.of ip.l ip.ll (fun k hk => ip.f k (by omega)) (fun k hk => ip.a k (by omega))
  have fr2 : CkFr (3 + τ.length) σ0 σ2 := fr1.trans (Nat.le_refl _) g4
  have p2 : σ2.1 36 = -1 := by rw [fr2.f 36 (by omega) (by omega) (by omega)]; exact p0
  have x3 : (σ.1 3).toInt = (3 + τ.length : Nat) := hT.n
  have kp : ∀ k, (k < 20 ∨ k = 24 ∨ k = 25 ∨ 40 ≤ k) → σ2.2.2.1 k = σ.2.2.1 k := fun k hk => by rw [fr2.a k (by omega) (by omega), a0]
  -- the end, with a fault
  have bad : ∀ σ3 : mSt, σ3.1 34 ≠ 0 → (∀ k, k ≠ 34 → σ3.1 k = σ2.1 k) → σ3.2 = σ2.2 → (∀ t e τ', found σ τ x.toInt.toNat = some (t, e, τ') → ¬ τ'.length ≤ 60) → CheckedX σ N τ x (F_Mo_check_j149 n σ3 x (σ.1 3) 3) := by
    intro σ3 h34 hf h2 hno
    have b34 : (F_Mo_begin (mo_si σ3 4 3)).1 34 ≠ 0 := by rw [begin_f (by omega), si_1, if_neg (by omega)]; exact h34
    simp only [F_Mo_check_j149, mbind_eq, si_1, show ¬ (34 = 46) by decide, if_false, if_neg b34]
    refine ⟨fun h => absurd hx h, fun _ h => absurd hg h, fun _ t e τ' h1 h2 => absurd h2 (hno t e τ' h1), fun _ _ => ⟨?_, ?_, ?_⟩, fun k hk => ?_⟩
    · simp only; rw [si_1, if_neg (by omega), si_1, if_neg (by omega), begin_f (by omega), si_1, if_pos rfl]
    · have b := fr2.back g3 t0 g2 (x := σ.1 3) x3
      have e20 : ∀ k, 20 ≤ k → k ≤ 23 → (mo_si (mo_si (F_Mo_begin (mo_si σ3 4 3)) 46 0) 3 (σ.1 3)).2.2.1 k = σ2.2.2.1 k := fun k _ _ => by simp only [si_2, begin_a, h2]
      refine ⟨b.congr (by simp [si_1, si_2, sl_1, sl_2, sl_3, ai_1, ai_2, ai_3, ai_4, al_1, al_2, al_3, al_4, cp_1, cp_2, cp_3, cp_4]) (fun k h1 h2 => by rw [e20 k h1 h2]; rfl), fun t h1 h2 => ?_, fun t h1 h2 => ?_, fun t h1 h2 => ?_⟩
      · rw [e20 20 (by omega) (by omega), fr2.t20 t (by omega)]; exact tx0.a t h1 h2
      · rw [e20 21 (by omega) (by omega), fr2.t21 t (by omega)]; exact tx0.r t h1 h2
      · rw [e20 22 (by omega) (by omega), fr2.t22 t (by omega)]; exact tx0.w t h1 h2
    · simp only
      rw [si_1, if_neg (by omega), si_1, if_neg (by omega), begin_f (by omega), si_1, if_neg (by omega), hf 36 (by omega)]; exact p2
    · simp only [si_2, begin_a, h2]; exact kp k hk
  simp only [F_Mo_check_j114, F_Mo_check_j136]
  by_cases hf : σ2.1 34 = 0
  rotate_left
  · simp only [if_neg hf]
    exact bad σ2 hf (fun _ _ => rfl) rfl (fun t e τ' h => by rw [y1 hf] at h; cases h)
  simp only [if_pos hf]
  obtain ⟨τ', tx', ef⟩ := y2 hf
  have n3 := tx'.ok.n
  by_cases h63 : σ2.1 3 ≤ 63
  rotate_left
  · simp only [if_neg h63, si_1, if_true, show ¬ ((9 : Int32) = 0) by decide, if_false]
    refine bad (mo_si σ2 34 9) (by simp [si_1, si_2, sl_1, sl_2, sl_3, ai_1, ai_2, ai_3, ai_4, al_1, al_2, al_3, al_4, cp_1, cp_2, cp_3, cp_4]) (fun k hk => by simp [si_1, si_2, sl_1, sl_2, sl_3, ai_1, ai_2, ai_3, ai_4, al_1, al_2, al_3, al_4, cp_1, cp_2, cp_3, cp_4, hk]) rfl (fun t e τ2 h hl => ?_)
    rw [ef] at h
    cases h
    apply h63
    rw [Int32.le_iff_toInt_le, n3, show (63 : Int32).toInt = 63 from rfl]
    omega
  simp only [if_pos h63]
  have hl : τ'.length ≤ 60 := by rw [Int32.le_iff_toInt_le, n3, show (63 : Int32).toInt = 63 from rfl] at h63; omega
  have b34 : (F_Mo_begin (mo_si σ2 4 0)).1 34 = 0 := by rw [begin_f (by omega), si_1, if_neg (by omega)]; exact hf
  have b32 : (F_Mo_begin (mo_si σ2 4 0)).1 32 = σ2.1 32 := by rw [begin_f (by omega), si_1, if_neg (by omega)]
  have b4 : (F_Mo_begin (mo_si σ2 4 0)).1 4 = 0 := by rw [begin_f (by omega), si_1, if_pos rfl]
  have b3 : (F_Mo_begin (mo_si σ2 4 0)).1 3 = σ2.1 3 := by rw [begin_f (by omega), si_1, if_neg (by omega)]
  have d32 : 0 ≤ (σ2.1 32).toInt := by
    obtain ⟨t, _, d2, _⟩ := (g5 hf).ci.done rfl
    omega
  simp only [F_Mo_check_j149, mbind_eq, si_1, show ¬ (34 = 46) by decide, if_false, if_pos b34]
  refine ⟨fun h => absurd hx h, fun _ h => absurd hg h, fun _ t e τ2 h _ => ?_, fun _ h => absurd hl (h _ _ _ ef), fun k hk => ?_⟩
  · rw [ef] at h
    cases h
    simp (decide := true) only [if_false, if_true]
    refine ⟨by rw [b32]; omega, ?_, ?_, ?_⟩
    · rw [si_1, if_neg (by omega), si_1, if_neg (by omega), si_1, if_neg (by omega), si_1, if_neg (by omega)]; exact b4
    · refine tx'.congr ?_ (fun k _ _ => rfl)
      rw [si_1, if_neg (by omega), si_1, if_neg (by omega), si_1, if_neg (by omega), si_1, if_neg (by omega)]; exact b3
    · rw [si_1, if_neg (by omega), si_1, if_neg (by omega), si_1, if_pos rfl]
  · simp only [si_2, begin_a]; exact kp k hk
end
section
/-- what function does, exactly -/
def FunX (σ : mSt) (τ : TT) (x1 x2 x3 : Int32) (w : Int32 × mSt) : Prop := (¬ FuG (3 + τ.length) x1 x2 x3 → w.2 = mo_si σ 4 1) ∧ (FuG (3 + τ.length) x1 x2 x3 → (number τ (x1.toInt.toNat, x2.toInt.toNat, x3)).2.length ≤ 60 → w.1.toInt = (number τ (x1.toInt.toNat, x2.toInt.toNat, x3)).1 ∧ w.2.1 4 = 0 ∧ TX w.2 (number τ (x1.toInt.toNat, x2.toInt.toNat, x3)).2) ∧ (FuG (3 + τ.length) x1 x2 x3 → ¬ (number τ (x1.toInt.toNat, x2.toInt.toNat, x3)).2.length ≤ 60 → w.2 = mo_si σ 4 2)
theorem FunX.no {σ : mSt} {τ : TT} {x1 x2 x3 : Int32} {w : Int32 × mSt} (self : FunX σ τ x1 x2 x3 w) : ¬ FuG (3 + τ.length) x1 x2 x3 → w.2 = mo_si σ 4 1 := self.1
theorem FunX.ok {σ : mSt} {τ : TT} {x1 x2 x3 : Int32} {w : Int32 × mSt} (self : FunX σ τ x1 x2 x3 w) : FuG (3 + τ.length) x1 x2 x3 → (number τ (x1.toInt.toNat, x2.toInt.toNat, x3)).2.length ≤ 60 → w.1.toInt = (number τ (x1.toInt.toNat, x2.toInt.toNat, x3)).1 ∧ w.2.1 4 = 0 ∧ TX w.2 (number τ (x1.toInt.toNat, x2.toInt.toNat, x3)).2 := self.2.1
theorem FunX.full {σ : mSt} {τ : TT} {x1 x2 x3 : Int32} {w : Int32 × mSt} (self : FunX σ τ x1 x2 x3 w) : FuG (3 + τ.length) x1 x2 x3 → ¬ (number τ (x1.toInt.toNat, x2.toInt.toNat, x3)).2.length ≤ 60 → w.2 = mo_si σ 4 2 := self.2.2
theorem si4_si4 {σ : mSt} {x y : Int32} : mo_si (mo_si σ 4 x) 4 y = mo_si σ 4 y := by
  refine mSt_ext ?_ rfl rfl (fun _ _ => rfl)
  funext k; simp only [si_1]; split <;> rfl
theorem looksFit_2 (σ : mSt) (x y : Int32) : (F_Mo_looksFit σ x y).2 = σ := by
  unfold F_Mo_looksFit
  repeat' split
  all_goals rfl
theorem typeOf_97_1 : ∀ (n : Nat) (σ : mSt) (x y : Int32), (F_Mo_typeOf_97 n σ x y).1.1 = σ.1 := by
  intro n
  induction n with
  | zero => intro σ x y; rfl
  | succ n ih =>
    intro σ x y
    simp only [F_Mo_typeOf_97, mbind_eq]
    split
    · rfl
    · rw [ih]; simp only [ai_1, looksFit_2]
theorem typeOf_3_4 : ∀ (n : Nat) (σ : mSt) (x1 x2 x3 y : Int32), (F_Mo_typeOf_3 n σ x1 x2 x3 y).2.1 4 = σ.1 4 := by
  intro n
  induction n with
  | zero => intro σ x1 x2 x3 y; rfl
  | succ n ih =>
    intro σ x1 x2 x3 y
    simp only [F_Mo_typeOf_3, mbind_eq]
    repeat' split
    all_goals first | rfl | exact ih _ _ _ _ _ | (simp only [typeOf_97_1, si_1, ai_1]; rw [if_neg (by omega)])
theorem function_48_x {σ : mSt} {τ : TT} (h : TX σ τ) (h4 : σ.1 4 = 0) (hlt : τ.length ≤ 60) {x1 x2 x3 : Int32} {a b : Nat} (h1 : x1.toInt = a) (ha : a < 3 + τ.length) (h2 : x2.toInt = b) (hb : b < 3 + τ.length) :
    ∀ (m n : Nat) (y : Int32) (u : Nat), y.toInt = u → 3 ≤ u → u ≤ 3 + τ.length → 3 + τ.length - u ≤ m → m + 1300 < n → (∀ k, 3 ≤ k → k < u → τ[k - 3]? ≠ some (a, b, x3)) →
    ((number τ (a, b, x3)).2.length ≤ 60 → (F_Mo_function_48 n σ x1 x2 x3 y).1.toInt = (number τ (a, b, x3)).1 ∧ (F_Mo_function_48 n σ x1 x2 x3 y).2.1 4 = 0 ∧ TX (F_Mo_function_48 n σ x1 x2 x3 y).2 (number τ (a, b, x3)).2) ∧ (¬ (number τ (a, b, x3)).2.length ≤ 60 → (F_Mo_function_48 n σ x1 x2 x3 y).2 = mo_si σ 4 2) := by
  have hn := h.ok.n
  have fin : ∀ (n : Nat) (y : Int32), y.toInt = (3 + τ.length : Nat) → 1300 ≤ n → (∀ k, 3 ≤ k → k < 3 + τ.length → τ[k - 3]? ≠ some (a, b, x3)) → ((number τ (a, b, x3)).2.length ≤ 60 → (F_Mo_function_48 (n + 1) σ x1 x2 x3 y).1.toInt = (number τ (a, b, x3)).1 ∧ (F_Mo_function_48 (n + 1) σ x1 x2 x3 y).2.1 4 = 0 ∧ TX (F_Mo_function_48 (n + 1) σ x1 x2 x3 y).2 (number τ (a, b, x3)).2) ∧ (¬ (number τ (a, b, x3)).2.length ≤ 60 → (F_Mo_function_48 (n + 1) σ x1 x2 x3 y).2 = mo_si σ 4 2) := by
    intro n y hy hn' hno
    have nf : find (a, b, x3) τ 3 = none := find_of_none (fun k hk => by
      have hl : k < τ.length := by
        rw [List.getElem?_eq_some_iff] at hk; exact hk.1
      exact hno (k + 3) (by omega) (by omega) (by rw [Nat.add_sub_cancel]; exact hk))
    have len : (number τ (a, b, x3)).2.length = τ.length + 1 := by unfold number; rw [nf]; simp [si_1, si_2, sl_1, sl_2, sl_3, ai_1, ai_2, ai_3, ai_4, al_1, al_2, al_3, al_4, cp_1, cp_2, cp_3, cp_4]
    have hc : σ.1 3 ≤ y := by rw [Int32.le_iff_toInt_le]; omega
    simp only [F_Mo_function_48, if_pos hc]
    by_cases g : σ.1 3 = 63
    · have e : τ.length = 60 := by rw [g] at hn; have : (63 : Int32).toInt = 63 := rfl; omega
      simp (decide := true) only [if_pos g, F_Mo_function_j114, si_1, if_true, if_false]
      exact ⟨fun hh => by omega, fun _ => trivial⟩
    · have e : τ.length ≠ 60 := by intro hh; apply g; apply Int32.toInt_inj.mp; rw [hn, show (63 : Int32).toInt = 63 from rfl, hh]; rfl
      simp only [if_neg g, F_Mo_function_j114, si_1, if_true, mbind_eq]
      have tx4 : TX (mo_si σ 4 0) τ := h.congr (by simp [si_1, si_2, sl_1, sl_2, sl_3, ai_1, ai_2, ai_3, ai_4, al_1, al_2, al_3, al_4, cp_1, cp_2, cp_3, cp_4]) (fun _ _ _ => rfl)
      obtain ⟨t1, t2⟩ := typeOf_x tx4 (by omega) (x1 := x1) (x2 := x2) (x3 := x3) h1 ha h2 hb (n := n) (by omega)
      refine ⟨fun _ => ⟨t1, ?_, t2⟩, fun hh => by omega⟩
      have := typeOf_3_4 n (mo_si σ 4 0) x1 x2 x3 3
      rw [show (F_Mo_typeOf n (mo_si σ 4 0) x1 x2 x3).2.1 4 = (mo_si σ 4 0).1 4 from this]; simp [si_1, si_2, sl_1, sl_2, sl_3, ai_1, ai_2, ai_3, ai_4, al_1, al_2, al_3, al_4, cp_1, cp_2, cp_3, cp_4]
  intro m
  induction m with
  | zero =>
    intro n y u hy h3 hu hm hmn hno
    obtain ⟨n, rfl⟩ : ∃ k, n = k + 1 := ⟨n - 1, by omega⟩
    have : u = 3 + τ.length := by omega
    subst this
    exact fin n y hy (by omega) hno
  | succ m ih =>
    intro n y u hy h3 hu hm hmn hno
    obtain ⟨n, rfl⟩ : ∃ k, n = k + 1 := ⟨n - 1, by omega⟩
    by_cases hc : u = 3 + τ.length
    · subst hc; exact fin n y hy (by omega) hno
    have hc' : ¬ σ.1 3 ≤ y := by rw [Int32.le_iff_toInt_le]; omega
    have hyn : y.toNatClampNeg = u := by show y.toInt.toNat = u; omega
    have q1 := h.a u h3 (by omega)
    have q2 := h.r u h3 (by omega)
    have q3 := h.w u h3 (by omega)
    have tg := tget h3 (show u < 3 + τ.length by omega)
    have i1 : (y + 1).toInt = (u + 1 : Nat) := by clear h ih fin hno tg; ((try (simp only [vp_in, Int32.toNatClampNeg, Int32.lt_iff_toInt_lt, Int32.le_iff_toInt_le, ← Int32.toInt_inj, Int32.toInt_add, Int32.toInt_sub, Int32.toInt_mul, Int32.reduceToInt, i32_neg1, Nat.reducePow, Int.reducePow, ne_eq, ge_iff_le, gt_iff_lt] at *)) <;> (first | omega | ((simp (disch := omega) only [bm32] at *) <;> omega)))
    simp only [F_Mo_function_48, if_neg hc', hyn]
    have nx : τ[u - 3]? ≠ some (a, b, x3) → _ := fun hne => ih n (y + 1) (u + 1) i1 (by omega) (by omega) (by omega) (by omega) (fun k g1 g2 => by
      by_cases hk : k = u
      · subst hk; exact hne
      · exact hno k g1 (by omega))
    by_cases e1 : σ.2.2.1 20 u = x1
    rotate_left
    · simp only [if_neg e1]
      apply nx; rw [tg]; intro hh; apply e1; apply Int32.toInt_inj.mp
      simp [si_1, si_2, sl_1, sl_2, sl_3, ai_1, ai_2, ai_3, ai_4, al_1, al_2, al_3, al_4, cp_1, cp_2, cp_3, cp_4] at hh
      rw [q1, h1, hh.1]
    simp only [if_pos e1]
    by_cases e2 : σ.2.2.1 21 u = x2
    rotate_left
    · simp only [if_neg e2]
      apply nx; rw [tg]; intro hh; apply e2; apply Int32.toInt_inj.mp
      simp [si_1, si_2, sl_1, sl_2, sl_3, ai_1, ai_2, ai_3, ai_4, al_1, al_2, al_3, al_4, cp_1, cp_2, cp_3, cp_4] at hh
      rw [q2, h2, hh.2.1]
    simp only [if_pos e2]
    by_cases e3 : σ.2.2.1 22 u = x3
    rotate_left
    · simp only [if_neg e3]
      apply nx; rw [tg]; intro hh; apply e3
      simp [si_1, si_2, sl_1, sl_2, sl_3, ai_1, ai_2, ai_3, ai_4, al_1, al_2, al_3, al_4, cp_1, cp_2, cp_3, cp_4] at hh
      rw [q3, hh.2.2]
    simp only [if_pos e3]
    have ff : find (a, b, x3) τ 3 = some u := by
      refine find_of h3 ?_ hno
      rw [tg]
      rw [e1, h1] at q1
      rw [e2, h2] at q2
      rw [e3] at q3
      have : tA τ u = a := by omega
      have h2' : tR τ u = b := by omega
      rw [this, h2', ← q3]
    unfold number
    rw [ff]
    exact ⟨fun _ => ⟨hy, h4, h⟩, fun hh => absurd hlt hh⟩
theorem function_x {σ : mSt} {τ : TT} (h : TX σ τ) (hlt : τ.length ≤ 60) {n : Nat} (hn : 1500 ≤ n) {x1 x2 x3 : Int32} : FunX σ τ x1 x2 x3 (F_Mo_function n σ x1 x2 x3) := by
  have h3 := h.ok.n
  have n1 : ¬ (1 : Int32) = 0 := by decide
  have c255 : (255 : Int32).toInt = 255 := rfl
  have c0 : (0 : Int32).toInt = 0 := rfl
  have bad : F_Mo_function_j28 n σ x1 x2 x3 = (0, mo_si σ 4 1) := by
    simp [si_1, si_2, sl_1, sl_2, sl_3, ai_1, ai_2, ai_3, ai_4, al_1, al_2, al_3, al_4, cp_1, cp_2, cp_3, cp_4, F_Mo_function_j28, F_Mo_function_j33]
  have fail : ¬ FuG (3 + τ.length) x1 x2 x3 → FunX σ τ x1 x2 x3 (0, mo_si σ 4 1) := fun g => ⟨fun _ => rfl, fun h => absurd h g, fun h => absurd h g⟩
  simp only [F_Mo_function, isType_F h3, mbind_eq]
  by_cases a : Is (3 + τ.length) x1
  rotate_left
  · simp only [if_neg a, if_true, bad]; exact fail (fun g => a g.1)
  simp only [if_pos a, if_neg n1]
  by_cases b : Is (3 + τ.length) x2
  rotate_left
  · simp only [if_neg b, if_true, bad]; exact fail (fun g => b g.2.1)
  simp only [if_pos b, if_neg n1]
  by_cases c : x3 < 0
  · simp only [if_pos c, bad]
    exact fail (fun g => by have := g.2.2.1; rw [Int32.lt_iff_toInt_lt, c0] at c; omega)
  simp only [if_neg c]
  by_cases d : x3 ≤ 255
  rotate_left
  · simp only [if_neg d, bad]
    exact fail (fun g => by have := g.2.2.2; rw [Int32.le_iff_toInt_le, c255] at d; omega)
  simp only [if_pos d, F_Mo_function_j33, si_1, if_true]
  have g : FuG (3 + τ.length) x1 x2 x3 := ⟨a, b, by rw [Int32.lt_iff_toInt_lt, c0] at c; omega, by rw [Int32.le_iff_toInt_le, c255] at d; omega⟩
  have a' : 0 ≤ x1.toInt ∧ x1.toInt < (3 + τ.length : Nat) := a
  have b' : 0 ≤ x2.toInt ∧ x2.toInt < (3 + τ.length : Nat) := b
  obtain ⟨r1, r2⟩ := function_48_x (σ := mo_si σ 4 0) (h.congr (by simp [si_1, si_2, sl_1, sl_2, sl_3, ai_1, ai_2, ai_3, ai_4, al_1, al_2, al_3, al_4, cp_1, cp_2, cp_3, cp_4]) (fun _ _ _ => rfl)) (by simp [si_1, si_2, sl_1, sl_2, sl_3, ai_1, ai_2, ai_3, ai_4, al_1, al_2, al_3, al_4, cp_1, cp_2, cp_3, cp_4]) hlt (x1 := x1) (x2 := x2) (x3 := x3) (a := x1.toInt.toNat) (b := x2.toInt.toNat) (by omega) (by omega) (by omega) (by omega) τ.length n 3 3 rfl (by omega) (by omega) (by omega) (by omega) (fun k g1 g2 => by omega)
  exact ⟨fun h => absurd g h, fun _ hl => r1 hl, fun _ hl => by rw [r2 hl, si4_si4]⟩
end
