-- pure rows: AM
section
/-! pure rows: the machine's copying -/
/-- ten places copied, from the j-th on -/
def cp (σ : mSt) (dst db src sb j : Nat) : mSt := (σ.1, σ.2.1, σ.2.2.1, fun a i => if a = dst ∧ db + j ≤ i ∧ i < db + 10 then σ.2.2.2 src (sb + (i - db)) else σ.2.2.2 a i)
theorem cp_1 (σ : mSt) (dst db src sb j : Nat) : (cp σ dst db src sb j).1 = σ.1 := rfl
theorem cp_2 (σ : mSt) (dst db src sb j : Nat) : (cp σ dst db src sb j).2.1 = σ.2.1 := rfl
theorem cp_3 (σ : mSt) (dst db src sb j : Nat) : (cp σ dst db src sb j).2.2.1 = σ.2.2.1 := rfl
theorem cp_4 (σ : mSt) (dst db src sb j a i : Nat) : (cp σ dst db src sb j).2.2.2 a i = if a = dst ∧ db + j ≤ i ∧ i < db + 10 then σ.2.2.2 src (sb + (i - db)) else σ.2.2.2 a i := rfl
theorem mSt_ext {a b : mSt} (h1 : a.1 = b.1) (h2 : a.2.1 = b.2.1) (h3 : a.2.2.1 = b.2.2.1) (h4 : ∀ k i, a.2.2.2 k i = b.2.2.2 k i) : a = b := by
  obtain ⟨a1, a2, a3, a4⟩ := a
  obtain ⟨b1, b2, b3, b4⟩ := b
  simp only at h1 h2 h3 h4
  have : a4 = b4 := by funext k i; exact h4 k i
  subst h1 h2 h3 this
  rfl
theorem cp_step {σ : mSt} {dst db src sb j : Nat} (h : src ≠ dst) (hj : j < 10) : cp (mo_al σ dst (db + j) (σ.2.2.2 src (sb + j))) dst db src sb (j + 1) = cp σ dst db src sb j := by
  refine mSt_ext ?_ ?_ ?_ ?_
  · rfl
  · rfl
  · rfl
  intro k i
  simp only [cp_4, al_4]
  by_cases hk : k = dst
  · subst hk
    by_cases h1 : k = k ∧ db + (j + 1) ≤ i ∧ i < db + 10
    · rw [if_pos h1, if_neg (by intro hh; exact h hh.1), if_pos ⟨rfl, by omega, h1.2.2⟩]
    · rw [if_neg h1]
      by_cases h2 : i = db + j
      · subst h2; rw [if_pos ⟨rfl, rfl⟩, if_pos ⟨rfl, by omega, by omega⟩]; rw [show db + j - db = j by omega]
      · rw [if_neg (by omega), if_neg (by omega)]
  · rw [if_neg (by omega), if_neg (by omega), if_neg (by omega)]
theorem cp_10 {σ : mSt} {dst db src sb : Nat} : cp σ dst db src sb 10 = σ := by
  refine mSt_ext ?_ ?_ ?_ ?_
  · rfl
  · rfl
  · rfl
  intro k i
  simp only [cp_4]
  rw [if_neg (by omega)]
theorem push_32_ok {F : Nat} (hF : F < 17000) : ∀ (m n j : Nat) (σ : mSt) (x : Int32), (σ.1 44).toInt = F → x.toInt = j → j + m = 10 → m < n → S_Mo_push_32 n σ x ∧ F_Mo_push_32 n σ x = cp σ 43 (10 * F) 53 0 j := by
  intro m
  induction m with
  | zero =>
    intro n j σ x h44 hx hj hn
    obtain ⟨n, rfl⟩ : ∃ k, n = k + 1 := ⟨n - 1, by omega⟩
    have h10 : 10 ≤ x := by ((try (simp only [vp_in, Int32.toNatClampNeg, Int32.lt_iff_toInt_lt, Int32.le_iff_toInt_le, ← Int32.toInt_inj, Int32.toInt_add, Int32.toInt_sub, Int32.toInt_mul, Int32.reduceToInt, i32_neg1, Nat.reducePow, Int.reducePow, ne_eq, ge_iff_le, gt_iff_lt] at *)) <;> (first | omega | ((simp (disch := omega) only [bm32] at *) <;> omega)))
    have : j = 10 := by omega
    subst this
    simp only [S_Mo_push_32, F_Mo_push_32, if_pos h10, cp_10, and_self]
  | succ m ih =>
    intro n j σ x h44 hx hj hn
    obtain ⟨n, rfl⟩ : ∃ k, n = k + 1 := ⟨n - 1, by omega⟩
    have h10 : ¬ 10 ≤ x := by ((try (simp only [vp_in, Int32.toNatClampNeg, Int32.lt_iff_toInt_lt, Int32.le_iff_toInt_le, ← Int32.toInt_inj, Int32.toInt_add, Int32.toInt_sub, Int32.toInt_mul, Int32.reduceToInt, i32_neg1, Nat.reducePow, Int.reducePow, ne_eq, ge_iff_le, gt_iff_lt] at *)) <;> (first | omega | ((simp (disch := omega) only [bm32] at *) <;> omega)))
    have v1 : vp_in x 10 := by ((try (simp only [vp_in, Int32.toNatClampNeg, Int32.lt_iff_toInt_lt, Int32.le_iff_toInt_le, ← Int32.toInt_inj, Int32.toInt_add, Int32.toInt_sub, Int32.toInt_mul, Int32.reduceToInt, i32_neg1, Nat.reducePow, Int.reducePow, ne_eq, ge_iff_le, gt_iff_lt] at *)) <;> (first | omega | ((simp (disch := omega) only [bm32] at *) <;> omega)))
    have v2 : vp_in (10 * σ.1 44 + x) 170000 := by ((try (simp only [vp_in, Int32.toNatClampNeg, Int32.lt_iff_toInt_lt, Int32.le_iff_toInt_le, ← Int32.toInt_inj, Int32.toInt_add, Int32.toInt_sub, Int32.toInt_mul, Int32.reduceToInt, i32_neg1, Nat.reducePow, Int.reducePow, ne_eq, ge_iff_le, gt_iff_lt] at *)) <;> (first | omega | ((simp (disch := omega) only [bm32] at *) <;> omega)))
    have e1 : (10 * σ.1 44 + x).toNatClampNeg = 10 * F + j := by ((try (simp only [vp_in, Int32.toNatClampNeg, Int32.lt_iff_toInt_lt, Int32.le_iff_toInt_le, ← Int32.toInt_inj, Int32.toInt_add, Int32.toInt_sub, Int32.toInt_mul, Int32.reduceToInt, i32_neg1, Nat.reducePow, Int.reducePow, ne_eq, ge_iff_le, gt_iff_lt] at *)) <;> (first | omega | ((simp (disch := omega) only [bm32] at *) <;> omega)))
    have e2 : x.toNatClampNeg = 0 + j := by ((try (simp only [vp_in, Int32.toNatClampNeg, Int32.lt_iff_toInt_lt, Int32.le_iff_toInt_le, ← Int32.toInt_inj, Int32.toInt_add, Int32.toInt_sub, Int32.toInt_mul, Int32.reduceToInt, i32_neg1, Nat.reducePow, Int.reducePow, ne_eq, ge_iff_le, gt_iff_lt] at *)) <;> (first | omega | ((simp (disch := omega) only [bm32] at *) <;> omega)))
    have e3 : (x + 1).toInt = (j + 1 : Nat) := by ((try (simp only [vp_in, Int32.toNatClampNeg, Int32.lt_iff_toInt_lt, Int32.le_iff_toInt_le, ← Int32.toInt_inj, Int32.toInt_add, Int32.toInt_sub, Int32.toInt_mul, Int32.reduceToInt, i32_neg1, Nat.reducePow, Int.reducePow, ne_eq, ge_iff_le, gt_iff_lt] at *)) <;> (first | omega | ((simp (disch := omega) only [bm32] at *) <;> omega)))
    simp only [S_Mo_push_32, F_Mo_push_32, if_neg h10, e1, e2]
    obtain ⟨s, f⟩ := ih n (j + 1) (mo_al σ 43 (10 * F + j) (σ.2.2.2 53 (0 + j))) (x + 1) h44 e3 (by omega) (by omega)
    exact ⟨⟨v1, v2, s⟩, f.trans (cp_step (by decide) (by omega))⟩
theorem makes_39_ok {F : Nat} (hF : F < 1000) : ∀ (m n j : Nat) (σ : mSt) (x : Int32), (σ.1 56).toInt = F → x.toInt = j → j + m = 10 → m < n → S_Mo_makes_39 n σ x ∧ F_Mo_makes_39 n σ x = cp σ 55 (10 * F) 53 0 j := by
  intro m
  induction m with
  | zero =>
    intro n j σ x h44 hx hj hn
    obtain ⟨n, rfl⟩ : ∃ k, n = k + 1 := ⟨n - 1, by omega⟩
    have h10 : 10 ≤ x := by ((try (simp only [vp_in, Int32.toNatClampNeg, Int32.lt_iff_toInt_lt, Int32.le_iff_toInt_le, ← Int32.toInt_inj, Int32.toInt_add, Int32.toInt_sub, Int32.toInt_mul, Int32.reduceToInt, i32_neg1, Nat.reducePow, Int.reducePow, ne_eq, ge_iff_le, gt_iff_lt] at *)) <;> (first | omega | ((simp (disch := omega) only [bm32] at *) <;> omega)))
    have : j = 10 := by omega
    subst this
    simp only [S_Mo_makes_39, F_Mo_makes_39, if_pos h10, cp_10, and_self]
  | succ m ih =>
    intro n j σ x h44 hx hj hn
    obtain ⟨n, rfl⟩ : ∃ k, n = k + 1 := ⟨n - 1, by omega⟩
    have h10 : ¬ 10 ≤ x := by ((try (simp only [vp_in, Int32.toNatClampNeg, Int32.lt_iff_toInt_lt, Int32.le_iff_toInt_le, ← Int32.toInt_inj, Int32.toInt_add, Int32.toInt_sub, Int32.toInt_mul, Int32.reduceToInt, i32_neg1, Nat.reducePow, Int.reducePow, ne_eq, ge_iff_le, gt_iff_lt] at *)) <;> (first | omega | ((simp (disch := omega) only [bm32] at *) <;> omega)))
    have v1 : vp_in x 10 := by ((try (simp only [vp_in, Int32.toNatClampNeg, Int32.lt_iff_toInt_lt, Int32.le_iff_toInt_le, ← Int32.toInt_inj, Int32.toInt_add, Int32.toInt_sub, Int32.toInt_mul, Int32.reduceToInt, i32_neg1, Nat.reducePow, Int.reducePow, ne_eq, ge_iff_le, gt_iff_lt] at *)) <;> (first | omega | ((simp (disch := omega) only [bm32] at *) <;> omega)))
    have v2 : vp_in (10 * σ.1 56 + x) 10000 := by ((try (simp only [vp_in, Int32.toNatClampNeg, Int32.lt_iff_toInt_lt, Int32.le_iff_toInt_le, ← Int32.toInt_inj, Int32.toInt_add, Int32.toInt_sub, Int32.toInt_mul, Int32.reduceToInt, i32_neg1, Nat.reducePow, Int.reducePow, ne_eq, ge_iff_le, gt_iff_lt] at *)) <;> (first | omega | ((simp (disch := omega) only [bm32] at *) <;> omega)))
    have e1 : (10 * σ.1 56 + x).toNatClampNeg = 10 * F + j := by ((try (simp only [vp_in, Int32.toNatClampNeg, Int32.lt_iff_toInt_lt, Int32.le_iff_toInt_le, ← Int32.toInt_inj, Int32.toInt_add, Int32.toInt_sub, Int32.toInt_mul, Int32.reduceToInt, i32_neg1, Nat.reducePow, Int.reducePow, ne_eq, ge_iff_le, gt_iff_lt] at *)) <;> (first | omega | ((simp (disch := omega) only [bm32] at *) <;> omega)))
    have e2 : x.toNatClampNeg = 0 + j := by ((try (simp only [vp_in, Int32.toNatClampNeg, Int32.lt_iff_toInt_lt, Int32.le_iff_toInt_le, ← Int32.toInt_inj, Int32.toInt_add, Int32.toInt_sub, Int32.toInt_mul, Int32.reduceToInt, i32_neg1, Nat.reducePow, Int.reducePow, ne_eq, ge_iff_le, gt_iff_lt] at *)) <;> (first | omega | ((simp (disch := omega) only [bm32] at *) <;> omega)))
    have e3 : (x + 1).toInt = (j + 1 : Nat) := by ((try (simp only [vp_in, Int32.toNatClampNeg, Int32.lt_iff_toInt_lt, Int32.le_iff_toInt_le, ← Int32.toInt_inj, Int32.toInt_add, Int32.toInt_sub, Int32.toInt_mul, Int32.reduceToInt, i32_neg1, Nat.reducePow, Int.reducePow, ne_eq, ge_iff_le, gt_iff_lt] at *)) <;> (first | omega | ((simp (disch := omega) only [bm32] at *) <;> omega)))
    simp only [S_Mo_makes_39, F_Mo_makes_39, if_neg h10, e1, e2]
    obtain ⟨s, f⟩ := ih n (j + 1) (mo_al σ 55 (10 * F + j) (σ.2.2.2 53 (0 + j))) (x + 1) h44 e3 (by omega) (by omega)
    exact ⟨⟨v1, v2, s⟩, f.trans (cp_step (by decide) (by omega))⟩
theorem seeAgain_2_ok {F : Nat} (hF : F < 17000) {x1 : Int32} (h1 : x1.toInt = F) : ∀ (m n j : Nat) (σ : mSt) (x : Int32), x.toInt = j → j + m = 10 → m < n → S_Mo_seeAgain_2 n σ x1 x ∧ F_Mo_seeAgain_2 n σ x1 x = cp σ 53 0 43 (10 * F) j := by
  intro m
  induction m with
  | zero =>
    intro n j σ x hx hj hn
    obtain ⟨n, rfl⟩ : ∃ k, n = k + 1 := ⟨n - 1, by omega⟩
    have h10 : 10 ≤ x := by ((try (simp only [vp_in, Int32.toNatClampNeg, Int32.lt_iff_toInt_lt, Int32.le_iff_toInt_le, ← Int32.toInt_inj, Int32.toInt_add, Int32.toInt_sub, Int32.toInt_mul, Int32.reduceToInt, i32_neg1, Nat.reducePow, Int.reducePow, ne_eq, ge_iff_le, gt_iff_lt] at *)) <;> (first | omega | ((simp (disch := omega) only [bm32] at *) <;> omega)))
    have : j = 10 := by omega
    subst this
    simp only [S_Mo_seeAgain_2, F_Mo_seeAgain_2, if_pos h10, cp_10, and_self]
  | succ m ih =>
    intro n j σ x hx hj hn
    obtain ⟨n, rfl⟩ : ∃ k, n = k + 1 := ⟨n - 1, by omega⟩
    have h10 : ¬ 10 ≤ x := by ((try (simp only [vp_in, Int32.toNatClampNeg, Int32.lt_iff_toInt_lt, Int32.le_iff_toInt_le, ← Int32.toInt_inj, Int32.toInt_add, Int32.toInt_sub, Int32.toInt_mul, Int32.reduceToInt, i32_neg1, Nat.reducePow, Int.reducePow, ne_eq, ge_iff_le, gt_iff_lt] at *)) <;> (first | omega | ((simp (disch := omega) only [bm32] at *) <;> omega)))
    have v1 : vp_in x 10 := by ((try (simp only [vp_in, Int32.toNatClampNeg, Int32.lt_iff_toInt_lt, Int32.le_iff_toInt_le, ← Int32.toInt_inj, Int32.toInt_add, Int32.toInt_sub, Int32.toInt_mul, Int32.reduceToInt, i32_neg1, Nat.reducePow, Int.reducePow, ne_eq, ge_iff_le, gt_iff_lt] at *)) <;> (first | omega | ((simp (disch := omega) only [bm32] at *) <;> omega)))
    have v2 : vp_in (10 * x1 + x) 170000 := by ((try (simp only [vp_in, Int32.toNatClampNeg, Int32.lt_iff_toInt_lt, Int32.le_iff_toInt_le, ← Int32.toInt_inj, Int32.toInt_add, Int32.toInt_sub, Int32.toInt_mul, Int32.reduceToInt, i32_neg1, Nat.reducePow, Int.reducePow, ne_eq, ge_iff_le, gt_iff_lt] at *)) <;> (first | omega | ((simp (disch := omega) only [bm32] at *) <;> omega)))
    have e1 : (10 * x1 + x).toNatClampNeg = 10 * F + j := by ((try (simp only [vp_in, Int32.toNatClampNeg, Int32.lt_iff_toInt_lt, Int32.le_iff_toInt_le, ← Int32.toInt_inj, Int32.toInt_add, Int32.toInt_sub, Int32.toInt_mul, Int32.reduceToInt, i32_neg1, Nat.reducePow, Int.reducePow, ne_eq, ge_iff_le, gt_iff_lt] at *)) <;> (first | omega | ((simp (disch := omega) only [bm32] at *) <;> omega)))
    have e2 : x.toNatClampNeg = 0 + j := by ((try (simp only [vp_in, Int32.toNatClampNeg, Int32.lt_iff_toInt_lt, Int32.le_iff_toInt_le, ← Int32.toInt_inj, Int32.toInt_add, Int32.toInt_sub, Int32.toInt_mul, Int32.reduceToInt, i32_neg1, Nat.reducePow, Int.reducePow, ne_eq, ge_iff_le, gt_iff_lt] at *)) <;> (first | omega | ((simp (disch := omega) only [bm32] at *) <;> omega)))
    have e3 : (x + 1).toInt = (j + 1 : Nat) := by ((try (simp only [vp_in, Int32.toNatClampNeg, Int32.lt_iff_toInt_lt, Int32.le_iff_toInt_le, ← Int32.toInt_inj, Int32.toInt_add, Int32.toInt_sub, Int32.toInt_mul, Int32.reduceToInt, i32_neg1, Nat.reducePow, Int.reducePow, ne_eq, ge_iff_le, gt_iff_lt] at *)) <;> (first | omega | ((simp (disch := omega) only [bm32] at *) <;> omega)))
    simp only [S_Mo_seeAgain_2, F_Mo_seeAgain_2, if_neg h10, e1, e2]
    obtain ⟨s, f⟩ := ih n (j + 1) (mo_al σ 53 (0 + j) (σ.2.2.2 43 (10 * F + j))) (x + 1) e3 (by omega) (by omega)
    exact ⟨⟨v2, v1, s⟩, f.trans (cp_step (by decide) (by omega))⟩
theorem callFunction_46_ok {F : Nat} (hF : F < 1000) {x1 x2 : Int32} (h1 : x1.toInt = F) : ∀ (m n j : Nat) (σ : mSt) (x : Int32), x.toInt = j → j + m = 10 → m < n → S_Mo_callFunction_46 n σ x1 x2 x ∧ F_Mo_callFunction_46 n σ x1 x2 x = (cp σ 53 0 55 (10 * F) j, x1, x2) := by
  intro m
  induction m with
  | zero =>
    intro n j σ x hx hj hn
    obtain ⟨n, rfl⟩ : ∃ k, n = k + 1 := ⟨n - 1, by omega⟩
    have h10 : 10 ≤ x := by ((try (simp only [vp_in, Int32.toNatClampNeg, Int32.lt_iff_toInt_lt, Int32.le_iff_toInt_le, ← Int32.toInt_inj, Int32.toInt_add, Int32.toInt_sub, Int32.toInt_mul, Int32.reduceToInt, i32_neg1, Nat.reducePow, Int.reducePow, ne_eq, ge_iff_le, gt_iff_lt] at *)) <;> (first | omega | ((simp (disch := omega) only [bm32] at *) <;> omega)))
    have : j = 10 := by omega
    subst this
    simp only [S_Mo_callFunction_46, F_Mo_callFunction_46, if_pos h10, cp_10, and_self]
  | succ m ih =>
    intro n j σ x hx hj hn
    obtain ⟨n, rfl⟩ : ∃ k, n = k + 1 := ⟨n - 1, by omega⟩
    have h10 : ¬ 10 ≤ x := by ((try (simp only [vp_in, Int32.toNatClampNeg, Int32.lt_iff_toInt_lt, Int32.le_iff_toInt_le, ← Int32.toInt_inj, Int32.toInt_add, Int32.toInt_sub, Int32.toInt_mul, Int32.reduceToInt, i32_neg1, Nat.reducePow, Int.reducePow, ne_eq, ge_iff_le, gt_iff_lt] at *)) <;> (first | omega | ((simp (disch := omega) only [bm32] at *) <;> omega)))
    have v1 : vp_in x 10 := by ((try (simp only [vp_in, Int32.toNatClampNeg, Int32.lt_iff_toInt_lt, Int32.le_iff_toInt_le, ← Int32.toInt_inj, Int32.toInt_add, Int32.toInt_sub, Int32.toInt_mul, Int32.reduceToInt, i32_neg1, Nat.reducePow, Int.reducePow, ne_eq, ge_iff_le, gt_iff_lt] at *)) <;> (first | omega | ((simp (disch := omega) only [bm32] at *) <;> omega)))
    have v2 : vp_in (10 * x1 + x) 10000 := by ((try (simp only [vp_in, Int32.toNatClampNeg, Int32.lt_iff_toInt_lt, Int32.le_iff_toInt_le, ← Int32.toInt_inj, Int32.toInt_add, Int32.toInt_sub, Int32.toInt_mul, Int32.reduceToInt, i32_neg1, Nat.reducePow, Int.reducePow, ne_eq, ge_iff_le, gt_iff_lt] at *)) <;> (first | omega | ((simp (disch := omega) only [bm32] at *) <;> omega)))
    have e1 : (10 * x1 + x).toNatClampNeg = 10 * F + j := by ((try (simp only [vp_in, Int32.toNatClampNeg, Int32.lt_iff_toInt_lt, Int32.le_iff_toInt_le, ← Int32.toInt_inj, Int32.toInt_add, Int32.toInt_sub, Int32.toInt_mul, Int32.reduceToInt, i32_neg1, Nat.reducePow, Int.reducePow, ne_eq, ge_iff_le, gt_iff_lt] at *)) <;> (first | omega | ((simp (disch := omega) only [bm32] at *) <;> omega)))
    have e2 : x.toNatClampNeg = 0 + j := by ((try (simp only [vp_in, Int32.toNatClampNeg, Int32.lt_iff_toInt_lt, Int32.le_iff_toInt_le, ← Int32.toInt_inj, Int32.toInt_add, Int32.toInt_sub, Int32.toInt_mul, Int32.reduceToInt, i32_neg1, Nat.reducePow, Int.reducePow, ne_eq, ge_iff_le, gt_iff_lt] at *)) <;> (first | omega | ((simp (disch := omega) only [bm32] at *) <;> omega)))
    have e3 : (x + 1).toInt = (j + 1 : Nat) := by ((try (simp only [vp_in, Int32.toNatClampNeg, Int32.lt_iff_toInt_lt, Int32.le_iff_toInt_le, ← Int32.toInt_inj, Int32.toInt_add, Int32.toInt_sub, Int32.toInt_mul, Int32.reduceToInt, i32_neg1, Nat.reducePow, Int.reducePow, ne_eq, ge_iff_le, gt_iff_lt] at *)) <;> (first | omega | ((simp (disch := omega) only [bm32] at *) <;> omega)))
    simp only [S_Mo_callFunction_46, F_Mo_callFunction_46, if_neg h10, e1, e2]
    obtain ⟨s, f⟩ := ih n (j + 1) (mo_al σ 53 (0 + j) (σ.2.2.2 55 (10 * F + j))) (x + 1) e3 (by omega) (by omega)
    refine ⟨⟨v2, v1, s⟩, f.trans ?_⟩
    rw [cp_step (by decide) (by omega)]
theorem goOn_149_ok {F Q : Nat} (hF : F < 17000) (hQ : Q < 42000) {x1 x2 : Int32} (h2 : x2.toInt = Q) : ∀ (m n j : Nat) (σ : mSt) (x : Int32), (σ.1 44).toInt = F → x.toInt = j → j + m = 10 → m < n → S_Mo_goOn_149 n σ x1 x2 x ∧ F_Mo_goOn_149 n σ x1 x2 x = (cp σ 43 (10 * F) 66 (10 * Q) j, x1, x2) := by
  intro m
  induction m with
  | zero =>
    intro n j σ x h44 hx hj hn
    obtain ⟨n, rfl⟩ : ∃ k, n = k + 1 := ⟨n - 1, by omega⟩
    have h10 : 10 ≤ x := by ((try (simp only [vp_in, Int32.toNatClampNeg, Int32.lt_iff_toInt_lt, Int32.le_iff_toInt_le, ← Int32.toInt_inj, Int32.toInt_add, Int32.toInt_sub, Int32.toInt_mul, Int32.reduceToInt, i32_neg1, Nat.reducePow, Int.reducePow, ne_eq, ge_iff_le, gt_iff_lt] at *)) <;> (first | omega | ((simp (disch := omega) only [bm32] at *) <;> omega)))
    have : j = 10 := by omega
    subst this
    simp only [S_Mo_goOn_149, F_Mo_goOn_149, if_pos h10, cp_10, and_self]
  | succ m ih =>
    intro n j σ x h44 hx hj hn
    obtain ⟨n, rfl⟩ : ∃ k, n = k + 1 := ⟨n - 1, by omega⟩
    have h10 : ¬ 10 ≤ x := by ((try (simp only [vp_in, Int32.toNatClampNeg, Int32.lt_iff_toInt_lt, Int32.le_iff_toInt_le, ← Int32.toInt_inj, Int32.toInt_add, Int32.toInt_sub, Int32.toInt_mul, Int32.reduceToInt, i32_neg1, Nat.reducePow, Int.reducePow, ne_eq, ge_iff_le, gt_iff_lt] at *)) <;> (first | omega | ((simp (disch := omega) only [bm32] at *) <;> omega)))
    have v1 : vp_in (10 * x2 + x) 420000 := by ((try (simp only [vp_in, Int32.toNatClampNeg, Int32.lt_iff_toInt_lt, Int32.le_iff_toInt_le, ← Int32.toInt_inj, Int32.toInt_add, Int32.toInt_sub, Int32.toInt_mul, Int32.reduceToInt, i32_neg1, Nat.reducePow, Int.reducePow, ne_eq, ge_iff_le, gt_iff_lt] at *)) <;> (first | omega | ((simp (disch := omega) only [bm32] at *) <;> omega)))
    have v2 : vp_in (10 * σ.1 44 + x) 170000 := by ((try (simp only [vp_in, Int32.toNatClampNeg, Int32.lt_iff_toInt_lt, Int32.le_iff_toInt_le, ← Int32.toInt_inj, Int32.toInt_add, Int32.toInt_sub, Int32.toInt_mul, Int32.reduceToInt, i32_neg1, Nat.reducePow, Int.reducePow, ne_eq, ge_iff_le, gt_iff_lt] at *)) <;> (first | omega | ((simp (disch := omega) only [bm32] at *) <;> omega)))
    have e1 : (10 * σ.1 44 + x).toNatClampNeg = 10 * F + j := by ((try (simp only [vp_in, Int32.toNatClampNeg, Int32.lt_iff_toInt_lt, Int32.le_iff_toInt_le, ← Int32.toInt_inj, Int32.toInt_add, Int32.toInt_sub, Int32.toInt_mul, Int32.reduceToInt, i32_neg1, Nat.reducePow, Int.reducePow, ne_eq, ge_iff_le, gt_iff_lt] at *)) <;> (first | omega | ((simp (disch := omega) only [bm32] at *) <;> omega)))
    have e2 : (10 * x2 + x).toNatClampNeg = 10 * Q + j := by ((try (simp only [vp_in, Int32.toNatClampNeg, Int32.lt_iff_toInt_lt, Int32.le_iff_toInt_le, ← Int32.toInt_inj, Int32.toInt_add, Int32.toInt_sub, Int32.toInt_mul, Int32.reduceToInt, i32_neg1, Nat.reducePow, Int.reducePow, ne_eq, ge_iff_le, gt_iff_lt] at *)) <;> (first | omega | ((simp (disch := omega) only [bm32] at *) <;> omega)))
    have e3 : (x + 1).toInt = (j + 1 : Nat) := by ((try (simp only [vp_in, Int32.toNatClampNeg, Int32.lt_iff_toInt_lt, Int32.le_iff_toInt_le, ← Int32.toInt_inj, Int32.toInt_add, Int32.toInt_sub, Int32.toInt_mul, Int32.reduceToInt, i32_neg1, Nat.reducePow, Int.reducePow, ne_eq, ge_iff_le, gt_iff_lt] at *)) <;> (first | omega | ((simp (disch := omega) only [bm32] at *) <;> omega)))
    simp only [S_Mo_goOn_149, F_Mo_goOn_149, if_neg h10, e1, e2]
    obtain ⟨s, f⟩ := ih n (j + 1) (mo_al σ 43 (10 * F + j) (σ.2.2.2 66 (10 * Q + j))) (x + 1) h44 e3 (by omega) (by omega)
    refine ⟨⟨v1, v2, s⟩, f.trans ?_⟩
    rw [cp_step (by decide) (by omega)]
theorem keep_115_ok {F Q : Nat} (hF : F < 17000) (hQ : Q < 42000) {x2 x4 : Int32} (h4 : x4.toInt = F) : ∀ (m n j : Nat) (σ : mSt) (x : Int32), (σ.1 62).toInt = Q → x.toInt = j → j + m = 10 → m < n → S_Mo_keep_115 n σ x2 x4 x ∧ F_Mo_keep_115 n σ x2 x4 x = (cp σ 66 (10 * Q) 43 (10 * F) j, x2, x4) := by
  intro m
  induction m with
  | zero =>
    intro n j σ x h44 hx hj hn
    obtain ⟨n, rfl⟩ : ∃ k, n = k + 1 := ⟨n - 1, by omega⟩
    have h10 : 10 ≤ x := by ((try (simp only [vp_in, Int32.toNatClampNeg, Int32.lt_iff_toInt_lt, Int32.le_iff_toInt_le, ← Int32.toInt_inj, Int32.toInt_add, Int32.toInt_sub, Int32.toInt_mul, Int32.reduceToInt, i32_neg1, Nat.reducePow, Int.reducePow, ne_eq, ge_iff_le, gt_iff_lt] at *)) <;> (first | omega | ((simp (disch := omega) only [bm32] at *) <;> omega)))
    have : j = 10 := by omega
    subst this
    simp only [S_Mo_keep_115, F_Mo_keep_115, if_pos h10, cp_10, and_self]
  | succ m ih =>
    intro n j σ x h44 hx hj hn
    obtain ⟨n, rfl⟩ : ∃ k, n = k + 1 := ⟨n - 1, by omega⟩
    have h10 : ¬ 10 ≤ x := by ((try (simp only [vp_in, Int32.toNatClampNeg, Int32.lt_iff_toInt_lt, Int32.le_iff_toInt_le, ← Int32.toInt_inj, Int32.toInt_add, Int32.toInt_sub, Int32.toInt_mul, Int32.reduceToInt, i32_neg1, Nat.reducePow, Int.reducePow, ne_eq, ge_iff_le, gt_iff_lt] at *)) <;> (first | omega | ((simp (disch := omega) only [bm32] at *) <;> omega)))
    have v1 : vp_in (10 * x4 + x) 170000 := by ((try (simp only [vp_in, Int32.toNatClampNeg, Int32.lt_iff_toInt_lt, Int32.le_iff_toInt_le, ← Int32.toInt_inj, Int32.toInt_add, Int32.toInt_sub, Int32.toInt_mul, Int32.reduceToInt, i32_neg1, Nat.reducePow, Int.reducePow, ne_eq, ge_iff_le, gt_iff_lt] at *)) <;> (first | omega | ((simp (disch := omega) only [bm32] at *) <;> omega)))
    have v2 : vp_in (10 * σ.1 62 + x) 420000 := by ((try (simp only [vp_in, Int32.toNatClampNeg, Int32.lt_iff_toInt_lt, Int32.le_iff_toInt_le, ← Int32.toInt_inj, Int32.toInt_add, Int32.toInt_sub, Int32.toInt_mul, Int32.reduceToInt, i32_neg1, Nat.reducePow, Int.reducePow, ne_eq, ge_iff_le, gt_iff_lt] at *)) <;> (first | omega | ((simp (disch := omega) only [bm32] at *) <;> omega)))
    have e1 : (10 * σ.1 62 + x).toNatClampNeg = 10 * Q + j := by ((try (simp only [vp_in, Int32.toNatClampNeg, Int32.lt_iff_toInt_lt, Int32.le_iff_toInt_le, ← Int32.toInt_inj, Int32.toInt_add, Int32.toInt_sub, Int32.toInt_mul, Int32.reduceToInt, i32_neg1, Nat.reducePow, Int.reducePow, ne_eq, ge_iff_le, gt_iff_lt] at *)) <;> (first | omega | ((simp (disch := omega) only [bm32] at *) <;> omega)))
    have e2 : (10 * x4 + x).toNatClampNeg = 10 * F + j := by ((try (simp only [vp_in, Int32.toNatClampNeg, Int32.lt_iff_toInt_lt, Int32.le_iff_toInt_le, ← Int32.toInt_inj, Int32.toInt_add, Int32.toInt_sub, Int32.toInt_mul, Int32.reduceToInt, i32_neg1, Nat.reducePow, Int.reducePow, ne_eq, ge_iff_le, gt_iff_lt] at *)) <;> (first | omega | ((simp (disch := omega) only [bm32] at *) <;> omega)))
    have e3 : (x + 1).toInt = (j + 1 : Nat) := by ((try (simp only [vp_in, Int32.toNatClampNeg, Int32.lt_iff_toInt_lt, Int32.le_iff_toInt_le, ← Int32.toInt_inj, Int32.toInt_add, Int32.toInt_sub, Int32.toInt_mul, Int32.reduceToInt, i32_neg1, Nat.reducePow, Int.reducePow, ne_eq, ge_iff_le, gt_iff_lt] at *)) <;> (first | omega | ((simp (disch := omega) only [bm32] at *) <;> omega)))
    simp only [S_Mo_keep_115, F_Mo_keep_115, if_neg h10, e1, e2]
    obtain ⟨s, f⟩ := ih n (j + 1) (mo_al σ 66 (10 * Q + j) (σ.2.2.2 43 (10 * F + j))) (x + 1) h44 e3 (by omega) (by omega)
    refine ⟨⟨v1, v2, s⟩, f.trans ?_⟩
    rw [cp_step (by decide) (by omega)]
/-- frames, kept frames, what is seen -/
def seen (f : Nat → Int64) (b : Nat) : Nat → Int64 := fun k => if k < 10 then f (b + k) else 0
def frm (σ : mSt) (f : Nat) : Fr := ⟨σ.2.2.1 40 f, σ.2.2.1 41 f, σ.2.2.2 42 f, seen (σ.2.2.2 43) (10 * f)⟩
def kfr (σ : mSt) (f : Nat) : Fr := ⟨σ.2.2.1 63 f, σ.2.2.1 64 f, σ.2.2.2 65 f, seen (σ.2.2.2 66) (10 * f)⟩
def nsee (σ : mSt) : Nat → Int64 := seen (σ.2.2.2 53) 0
theorem seen_congr {f g : Nat → Int64} {b c : Nat} (h : ∀ k, k < 10 → f (b + k) = g (c + k)) : seen f b = seen g c := by
  funext k; unfold seen; split
  · exact h k (by assumption)
  · rfl
/-- what a copying of frames into the kept leaves -/
def KeepP (σ σ' : mSt) (K s m : Nat) : Prop := (∀ k, k ≠ 62 → σ'.1 k = σ.1 k) ∧ ((σ'.1 62).toInt = K + m) ∧ (σ'.2.1 = σ.2.1) ∧ (∀ k, k ≠ 63 → k ≠ 64 → σ'.2.2.1 k = σ.2.2.1 k) ∧ (∀ k, k ≠ 65 → k ≠ 66 → σ'.2.2.2 k = σ.2.2.2 k) ∧ (∀ i, kfr σ' i = if K ≤ i ∧ i < K + m then frm σ (s + (i - K)) else kfr σ i)
theorem KeepP.f {σ σ' : mSt} {K s m : Nat} (self : KeepP σ σ' K s m) : ∀ k, k ≠ 62 → σ'.1 k = σ.1 k := self.1
theorem KeepP.f62 {σ σ' : mSt} {K s m : Nat} (self : KeepP σ σ' K s m) : (σ'.1 62).toInt = K + m := self.2.1
theorem KeepP.l {σ σ' : mSt} {K s m : Nat} (self : KeepP σ σ' K s m) : σ'.2.1 = σ.2.1 := self.2.2.1
theorem KeepP.a {σ σ' : mSt} {K s m : Nat} (self : KeepP σ σ' K s m) : ∀ k, k ≠ 63 → k ≠ 64 → σ'.2.2.1 k = σ.2.2.1 k := self.2.2.2.1
theorem KeepP.al {σ σ' : mSt} {K s m : Nat} (self : KeepP σ σ' K s m) : ∀ k, k ≠ 65 → k ≠ 66 → σ'.2.2.2 k = σ.2.2.2 k := self.2.2.2.2.1
theorem KeepP.kf {σ σ' : mSt} {K s m : Nat} (self : KeepP σ σ' K s m) : ∀ i, kfr σ' i = if K ≤ i ∧ i < K + m then frm σ (s + (i - K)) else kfr σ i := self.2.2.2.2.2
theorem keep_one {σ : mSt} {K f : Nat} {x : Int32} (hx : x.toInt = K + 1) : KeepP σ (mo_si (cp (mo_al (mo_ai (mo_ai σ 63 K (σ.2.2.1 40 f)) 64 K (σ.2.2.1 41 f)) 65 K (σ.2.2.2 42 f)) 66 (10 * K) 43 (10 * f) 0) 62 x) K f 1 := by
  refine ⟨fun k hk => by simp [si_1, si_2, sl_1, sl_2, sl_3, ai_1, ai_2, ai_3, ai_4, al_1, al_2, al_3, al_4, cp_1, cp_2, cp_3, cp_4, hk], by simp [si_1, si_2, sl_1, sl_2, sl_3, ai_1, ai_2, ai_3, ai_4, al_1, al_2, al_3, al_4, cp_1, cp_2, cp_3, cp_4, hx], rfl, fun k h1 h2 => by funext i; simp [si_1, si_2, sl_1, sl_2, sl_3, ai_1, ai_2, ai_3, ai_4, al_1, al_2, al_3, al_4, cp_1, cp_2, cp_3, cp_4, h1, h2], fun k h1 h2 => by funext i; simp [si_1, si_2, sl_1, sl_2, sl_3, ai_1, ai_2, ai_3, ai_4, al_1, al_2, al_3, al_4, cp_1, cp_2, cp_3, cp_4, h1, h2], fun i => ?_⟩
  by_cases hi : i = K
  · subst hi
    rw [if_pos (by omega)]
    unfold kfr frm
    simp only [si_2, cp_3, cp_4, al_3, al_4, ai_3, ai_4, Nat.sub_self, Nat.add_zero]
    simp only [show ¬ (63 = 64) by decide, false_and, if_false, and_self, if_true, show ¬ (65 = 66) by decide]
    congr 3
    apply seen_congr
    intro k hk
    simp only [cp_4, al_4, ai_4, true_and, show ¬ (43 = 65) by decide, show ¬ (66 = 42) by decide, false_and, if_false]
    rw [if_pos ⟨by omega, by omega⟩]
    rw [show 10 * i + k - 10 * i = k by omega]
  · rw [if_neg (by omega)]
    unfold kfr
    simp only [si_2, cp_3, cp_4, al_3, al_4, ai_3, ai_4]
    simp only [show ¬ (63 = 64) by decide, false_and, if_false, hi, and_false, show ¬ (65 = 66) by decide]
    congr 3
    apply seen_congr
    intro k hk
    simp only [cp_4, al_4, ai_4, true_and, show ¬ (66 = 65) by decide, show ¬ (43 = 42) by decide, false_and, if_false]
    rw [if_neg (by omega)]
theorem frm_of {σ σ' : mSt} (a : ∀ k, k = 40 ∨ k = 41 → σ'.2.2.1 k = σ.2.2.1 k) (al : ∀ k, k = 42 ∨ k = 43 → σ'.2.2.2 k = σ.2.2.2 k) : frm σ' = frm σ := by
  funext i; unfold frm; rw [a 40 (by omega), a 41 (by omega), al 42 (by omega), al 43 (by omega)]
theorem kfr_of {σ σ' : mSt} (a : ∀ k, k = 63 ∨ k = 64 → σ'.2.2.1 k = σ.2.2.1 k) (al : ∀ k, k = 65 ∨ k = 66 → σ'.2.2.2 k = σ.2.2.2 k) : kfr σ' = kfr σ := by
  funext i; unfold kfr; rw [a 63 (by omega), a 64 (by omega), al 65 (by omega), al 66 (by omega)]
theorem KeepP.trans {σ σ1 σ' : mSt} {K f m : Nat} (h : KeepP σ σ1 K f 1) (g : KeepP σ1 σ' (K + 1) (f + 1) m) : KeepP σ σ' K f (m + 1) := by
  refine ⟨fun k hk => (g.f k hk).trans (h.f k hk), by have := g.f62; omega, g.l.trans h.l, fun k h1 h2 => (g.a k h1 h2).trans (h.a k h1 h2), fun k h1 h2 => (g.al k h1 h2).trans (h.al k h1 h2), fun i => ?_⟩
  rw [g.kf i, frm_of (fun k hk => h.a k (by omega) (by omega)) (fun k hk => h.al k (by omega) (by omega))]
  by_cases h1 : K + 1 ≤ i ∧ i < K + 1 + m
  · rw [if_pos h1, if_pos (by omega)]; congr 1; omega
  · rw [if_neg h1, h.kf i]
    by_cases h2 : K ≤ i ∧ i < K + 1
    · rw [if_pos h2, if_pos (by omega)]
    · rw [if_neg h2, if_neg (by omega)]
theorem keep_58_ok {x2 : Int32} : ∀ (m n K f : Nat) (σ : mSt) (x : Int32), (σ.1 62).toInt = K → K + m ≤ 42000 → x.toInt = f → x2.toInt = f + m → f + m ≤ 17000 → m + 20 < n → S_Mo_keep_58 n σ x2 x ∧ KeepP σ (F_Mo_keep_58 n σ x2 x) K f m := by
  intro m
  induction m with
  | zero =>
    intro n K f σ x hK hK2 hx hx2 hf hn
    obtain ⟨n, rfl⟩ : ∃ k, n = k + 1 := ⟨n - 1, by omega⟩
    have h10 : x2 ≤ x := by ((try (simp only [vp_in, Int32.toNatClampNeg, Int32.lt_iff_toInt_lt, Int32.le_iff_toInt_le, ← Int32.toInt_inj, Int32.toInt_add, Int32.toInt_sub, Int32.toInt_mul, Int32.reduceToInt, i32_neg1, Nat.reducePow, Int.reducePow, ne_eq, ge_iff_le, gt_iff_lt] at *)) <;> (first | omega | ((simp (disch := omega) only [bm32] at *) <;> omega)))
    simp only [S_Mo_keep_58, F_Mo_keep_58, if_pos h10]
    exact ⟨trivial, fun _ _ => rfl, by omega, rfl, fun _ _ _ => rfl, fun _ _ _ => rfl, fun i => by rw [if_neg (by omega)]⟩
  | succ m ih =>
    intro n K f σ x hK hK2 hx hx2 hf hn
    obtain ⟨n, rfl⟩ : ∃ k, n = k + 1 := ⟨n - 1, by omega⟩
    have h10 : ¬ x2 ≤ x := by ((try (simp only [vp_in, Int32.toNatClampNeg, Int32.lt_iff_toInt_lt, Int32.le_iff_toInt_le, ← Int32.toInt_inj, Int32.toInt_add, Int32.toInt_sub, Int32.toInt_mul, Int32.reduceToInt, i32_neg1, Nat.reducePow, Int.reducePow, ne_eq, ge_iff_le, gt_iff_lt] at *)) <;> (first | omega | ((simp (disch := omega) only [bm32] at *) <;> omega)))
    have v1 : vp_in x 17000 := by ((try (simp only [vp_in, Int32.toNatClampNeg, Int32.lt_iff_toInt_lt, Int32.le_iff_toInt_le, ← Int32.toInt_inj, Int32.toInt_add, Int32.toInt_sub, Int32.toInt_mul, Int32.reduceToInt, i32_neg1, Nat.reducePow, Int.reducePow, ne_eq, ge_iff_le, gt_iff_lt] at *)) <;> (first | omega | ((simp (disch := omega) only [bm32] at *) <;> omega)))
    have v2 : vp_in (σ.1 62) 42000 := by ((try (simp only [vp_in, Int32.toNatClampNeg, Int32.lt_iff_toInt_lt, Int32.le_iff_toInt_le, ← Int32.toInt_inj, Int32.toInt_add, Int32.toInt_sub, Int32.toInt_mul, Int32.reduceToInt, i32_neg1, Nat.reducePow, Int.reducePow, ne_eq, ge_iff_le, gt_iff_lt] at *)) <;> (first | omega | ((simp (disch := omega) only [bm32] at *) <;> omega)))
    have e1 : (σ.1 62).toNatClampNeg = K := by ((try (simp only [vp_in, Int32.toNatClampNeg, Int32.lt_iff_toInt_lt, Int32.le_iff_toInt_le, ← Int32.toInt_inj, Int32.toInt_add, Int32.toInt_sub, Int32.toInt_mul, Int32.reduceToInt, i32_neg1, Nat.reducePow, Int.reducePow, ne_eq, ge_iff_le, gt_iff_lt] at *)) <;> (first | omega | ((simp (disch := omega) only [bm32] at *) <;> omega)))
    have e2 : x.toNatClampNeg = f := by ((try (simp only [vp_in, Int32.toNatClampNeg, Int32.lt_iff_toInt_lt, Int32.le_iff_toInt_le, ← Int32.toInt_inj, Int32.toInt_add, Int32.toInt_sub, Int32.toInt_mul, Int32.reduceToInt, i32_neg1, Nat.reducePow, Int.reducePow, ne_eq, ge_iff_le, gt_iff_lt] at *)) <;> (first | omega | ((simp (disch := omega) only [bm32] at *) <;> omega)))
    have e3 : (x + 1).toInt = (f + 1 : Nat) := by ((try (simp only [vp_in, Int32.toNatClampNeg, Int32.lt_iff_toInt_lt, Int32.le_iff_toInt_le, ← Int32.toInt_inj, Int32.toInt_add, Int32.toInt_sub, Int32.toInt_mul, Int32.reduceToInt, i32_neg1, Nat.reducePow, Int.reducePow, ne_eq, ge_iff_le, gt_iff_lt] at *)) <;> (first | omega | ((simp (disch := omega) only [bm32] at *) <;> omega)))
    have e4 : (σ.1 62 + 1).toInt = K + 1 := by ((try (simp only [vp_in, Int32.toNatClampNeg, Int32.lt_iff_toInt_lt, Int32.le_iff_toInt_le, ← Int32.toInt_inj, Int32.toInt_add, Int32.toInt_sub, Int32.toInt_mul, Int32.reduceToInt, i32_neg1, Nat.reducePow, Int.reducePow, ne_eq, ge_iff_le, gt_iff_lt] at *)) <;> (first | omega | ((simp (disch := omega) only [bm32] at *) <;> omega)))
    simp only [S_Mo_keep_58, F_Mo_keep_58, if_neg h10, mbind_eq, ai_1, e1, e2]
    simp only [ai_3, ai_4, show ¬ (41 = 63) by decide, false_and, if_false]
    obtain ⟨s1, f1⟩ := keep_115_ok (F := f) (Q := K) (by omega) (by omega) (x2 := x2) (x4 := x) hx 10 n 0 (mo_al (mo_ai (mo_ai σ 63 K (σ.2.2.1 40 f)) 64 K (σ.2.2.1 41 f)) 65 K (σ.2.2.2 42 f)) 0 hK rfl (by omega) (by omega)
    rw [f1]
    simp only [cp_1, al_1, ai_1]
    have k1 := keep_one (σ := σ) (K := K) (f := f) e4
    obtain ⟨s2, k2⟩ := ih n (K + 1) (f + 1) _ (x + 1) k1.f62 (by omega) e3 (by omega) (by omega) (by omega)
    exact ⟨⟨v1, v2, v1, v2, v1, v2, s1, s2⟩, k1.trans k2⟩
/-- what a copying of kept frames onto the stack leaves -/
def GoP (σ σ' : mSt) (F q m : Nat) : Prop := (∀ k, k ≠ 44 → σ'.1 k = σ.1 k) ∧ ((σ'.1 44).toInt = F + m) ∧ (σ'.2.1 = σ.2.1) ∧ (∀ k, k ≠ 40 → k ≠ 41 → σ'.2.2.1 k = σ.2.2.1 k) ∧ (∀ k, k ≠ 42 → k ≠ 43 → σ'.2.2.2 k = σ.2.2.2 k) ∧ (∀ i, frm σ' i = if F ≤ i ∧ i < F + m then kfr σ (q + (i - F)) else frm σ i)
theorem GoP.f {σ σ' : mSt} {F q m : Nat} (self : GoP σ σ' F q m) : ∀ k, k ≠ 44 → σ'.1 k = σ.1 k := self.1
theorem GoP.f44 {σ σ' : mSt} {F q m : Nat} (self : GoP σ σ' F q m) : (σ'.1 44).toInt = F + m := self.2.1
theorem GoP.l {σ σ' : mSt} {F q m : Nat} (self : GoP σ σ' F q m) : σ'.2.1 = σ.2.1 := self.2.2.1
theorem GoP.a {σ σ' : mSt} {F q m : Nat} (self : GoP σ σ' F q m) : ∀ k, k ≠ 40 → k ≠ 41 → σ'.2.2.1 k = σ.2.2.1 k := self.2.2.2.1
theorem GoP.al {σ σ' : mSt} {F q m : Nat} (self : GoP σ σ' F q m) : ∀ k, k ≠ 42 → k ≠ 43 → σ'.2.2.2 k = σ.2.2.2 k := self.2.2.2.2.1
theorem GoP.fr {σ σ' : mSt} {F q m : Nat} (self : GoP σ σ' F q m) : ∀ i, frm σ' i = if F ≤ i ∧ i < F + m then kfr σ (q + (i - F)) else frm σ i := self.2.2.2.2.2
theorem go_one {σ : mSt} {F q : Nat} {x : Int32} (hx : x.toInt = F + 1) : GoP σ (mo_si (cp (mo_al (mo_ai (mo_ai σ 40 F (σ.2.2.1 63 q)) 41 F (σ.2.2.1 64 q)) 42 F (σ.2.2.2 65 q)) 43 (10 * F) 66 (10 * q) 0) 44 x) F q 1 := by
  refine ⟨fun k hk => by simp [si_1, si_2, sl_1, sl_2, sl_3, ai_1, ai_2, ai_3, ai_4, al_1, al_2, al_3, al_4, cp_1, cp_2, cp_3, cp_4, hk], by simp [si_1, si_2, sl_1, sl_2, sl_3, ai_1, ai_2, ai_3, ai_4, al_1, al_2, al_3, al_4, cp_1, cp_2, cp_3, cp_4, hx], rfl, fun k h1 h2 => by funext i; simp [si_1, si_2, sl_1, sl_2, sl_3, ai_1, ai_2, ai_3, ai_4, al_1, al_2, al_3, al_4, cp_1, cp_2, cp_3, cp_4, h1, h2], fun k h1 h2 => by funext i; simp [si_1, si_2, sl_1, sl_2, sl_3, ai_1, ai_2, ai_3, ai_4, al_1, al_2, al_3, al_4, cp_1, cp_2, cp_3, cp_4, h1, h2], fun i => ?_⟩
  by_cases hi : i = F
  · subst hi
    rw [if_pos (by omega)]
    unfold kfr frm
    simp only [si_2, cp_3, cp_4, al_3, al_4, ai_3, ai_4, Nat.sub_self, Nat.add_zero]
    simp only [show ¬ (40 = 41) by decide, false_and, if_false, and_self, if_true, show ¬ (42 = 43) by decide]
    congr 3
    apply seen_congr
    intro k hk
    simp only [cp_4, al_4, ai_4, true_and, show ¬ (43 = 65) by decide, show ¬ (66 = 42) by decide, false_and, if_false]
    rw [if_pos ⟨by omega, by omega⟩]
    rw [show 10 * i + k - 10 * i = k by omega]
  · rw [if_neg (by omega)]
    unfold frm
    simp only [si_2, cp_3, cp_4, al_3, al_4, ai_3, ai_4]
    simp only [show ¬ (40 = 41) by decide, false_and, if_false, hi, and_false, show ¬ (42 = 43) by decide]
    congr 3
    apply seen_congr
    intro k hk
    simp only [cp_4, al_4, ai_4, true_and, show ¬ (66 = 65) by decide, show ¬ (43 = 42) by decide, false_and, if_false]
    rw [if_neg (by omega)]
theorem GoP.trans {σ σ1 σ' : mSt} {F q m : Nat} (h : GoP σ σ1 F q 1) (g : GoP σ1 σ' (F + 1) (q + 1) m) : GoP σ σ' F q (m + 1) := by
  refine ⟨fun k hk => (g.f k hk).trans (h.f k hk), by have := g.f44; omega, g.l.trans h.l, fun k h1 h2 => (g.a k h1 h2).trans (h.a k h1 h2), fun k h1 h2 => (g.al k h1 h2).trans (h.al k h1 h2), fun i => ?_⟩
  rw [g.fr i, kfr_of (fun k hk => h.a k (by omega) (by omega)) (fun k hk => h.al k (by omega) (by omega))]
  by_cases h1 : F + 1 ≤ i ∧ i < F + 1 + m
  · rw [if_pos h1, if_pos (by omega)]; congr 1; omega
  · rw [if_neg h1, h.fr i]
    by_cases h2 : F ≤ i ∧ i < F + 1
    · rw [if_pos h2, if_pos (by omega)]
    · rw [if_neg h2, if_neg (by omega)]
theorem goOn_85_ok {x1 : Int32} {k from' many : Nat} (hk : x1.toInt = k) (hk2 : k < 1000) : ∀ (m n F q : Nat) (σ : mSt) (x : Int32), (σ.2.2.1 57 k).toInt = from' → (σ.2.2.1 58 k).toInt = many → from' + many ≤ 42000 → q + m = from' + many → x.toInt = q → (σ.1 44).toInt = F → F + m ≤ 17000 → m + 20 < n → S_Mo_goOn_85 n σ x1 x ∧ GoP σ (F_Mo_goOn_85 n σ x1 x) F q m := by
  intro m
  induction m with
  | zero =>
    intro n F q σ x h57 h58 hK hq hx hF hF2 hn
    obtain ⟨n, rfl⟩ : ∃ k, n = k + 1 := ⟨n - 1, by omega⟩
    have e0 : x1.toNatClampNeg = k := by ((try (simp only [vp_in, Int32.toNatClampNeg, Int32.lt_iff_toInt_lt, Int32.le_iff_toInt_le, ← Int32.toInt_inj, Int32.toInt_add, Int32.toInt_sub, Int32.toInt_mul, Int32.reduceToInt, i32_neg1, Nat.reducePow, Int.reducePow, ne_eq, ge_iff_le, gt_iff_lt] at *)) <;> (first | omega | ((simp (disch := omega) only [bm32] at *) <;> omega)))
    have h10 : σ.2.2.1 57 k + σ.2.2.1 58 k ≤ x := by ((try (simp only [vp_in, Int32.toNatClampNeg, Int32.lt_iff_toInt_lt, Int32.le_iff_toInt_le, ← Int32.toInt_inj, Int32.toInt_add, Int32.toInt_sub, Int32.toInt_mul, Int32.reduceToInt, i32_neg1, Nat.reducePow, Int.reducePow, ne_eq, ge_iff_le, gt_iff_lt] at *)) <;> (first | omega | ((simp (disch := omega) only [bm32] at *) <;> omega)))
    have v0 : vp_in x1 1000 := by ((try (simp only [vp_in, Int32.toNatClampNeg, Int32.lt_iff_toInt_lt, Int32.le_iff_toInt_le, ← Int32.toInt_inj, Int32.toInt_add, Int32.toInt_sub, Int32.toInt_mul, Int32.reduceToInt, i32_neg1, Nat.reducePow, Int.reducePow, ne_eq, ge_iff_le, gt_iff_lt] at *)) <;> (first | omega | ((simp (disch := omega) only [bm32] at *) <;> omega)))
    simp only [S_Mo_goOn_85, F_Mo_goOn_85, e0, if_pos h10]
    exact ⟨⟨v0, v0, trivial⟩, fun _ _ => rfl, by omega, rfl, fun _ _ _ => rfl, fun _ _ _ => rfl, fun i => by rw [if_neg (by omega)]⟩
  | succ m ih =>
    intro n F q σ x h57 h58 hK hq hx hF hF2 hn
    obtain ⟨n, rfl⟩ : ∃ k, n = k + 1 := ⟨n - 1, by omega⟩
    have e0 : x1.toNatClampNeg = k := by ((try (simp only [vp_in, Int32.toNatClampNeg, Int32.lt_iff_toInt_lt, Int32.le_iff_toInt_le, ← Int32.toInt_inj, Int32.toInt_add, Int32.toInt_sub, Int32.toInt_mul, Int32.reduceToInt, i32_neg1, Nat.reducePow, Int.reducePow, ne_eq, ge_iff_le, gt_iff_lt] at *)) <;> (first | omega | ((simp (disch := omega) only [bm32] at *) <;> omega)))
    have h10 : ¬ σ.2.2.1 57 k + σ.2.2.1 58 k ≤ x := by ((try (simp only [vp_in, Int32.toNatClampNeg, Int32.lt_iff_toInt_lt, Int32.le_iff_toInt_le, ← Int32.toInt_inj, Int32.toInt_add, Int32.toInt_sub, Int32.toInt_mul, Int32.reduceToInt, i32_neg1, Nat.reducePow, Int.reducePow, ne_eq, ge_iff_le, gt_iff_lt] at *)) <;> (first | omega | ((simp (disch := omega) only [bm32] at *) <;> omega)))
    have v0 : vp_in x1 1000 := by ((try (simp only [vp_in, Int32.toNatClampNeg, Int32.lt_iff_toInt_lt, Int32.le_iff_toInt_le, ← Int32.toInt_inj, Int32.toInt_add, Int32.toInt_sub, Int32.toInt_mul, Int32.reduceToInt, i32_neg1, Nat.reducePow, Int.reducePow, ne_eq, ge_iff_le, gt_iff_lt] at *)) <;> (first | omega | ((simp (disch := omega) only [bm32] at *) <;> omega)))
    have v1 : vp_in x 42000 := by ((try (simp only [vp_in, Int32.toNatClampNeg, Int32.lt_iff_toInt_lt, Int32.le_iff_toInt_le, ← Int32.toInt_inj, Int32.toInt_add, Int32.toInt_sub, Int32.toInt_mul, Int32.reduceToInt, i32_neg1, Nat.reducePow, Int.reducePow, ne_eq, ge_iff_le, gt_iff_lt] at *)) <;> (first | omega | ((simp (disch := omega) only [bm32] at *) <;> omega)))
    have v2 : vp_in (σ.1 44) 17000 := by ((try (simp only [vp_in, Int32.toNatClampNeg, Int32.lt_iff_toInt_lt, Int32.le_iff_toInt_le, ← Int32.toInt_inj, Int32.toInt_add, Int32.toInt_sub, Int32.toInt_mul, Int32.reduceToInt, i32_neg1, Nat.reducePow, Int.reducePow, ne_eq, ge_iff_le, gt_iff_lt] at *)) <;> (first | omega | ((simp (disch := omega) only [bm32] at *) <;> omega)))
    have e1 : (σ.1 44).toNatClampNeg = F := by ((try (simp only [vp_in, Int32.toNatClampNeg, Int32.lt_iff_toInt_lt, Int32.le_iff_toInt_le, ← Int32.toInt_inj, Int32.toInt_add, Int32.toInt_sub, Int32.toInt_mul, Int32.reduceToInt, i32_neg1, Nat.reducePow, Int.reducePow, ne_eq, ge_iff_le, gt_iff_lt] at *)) <;> (first | omega | ((simp (disch := omega) only [bm32] at *) <;> omega)))
    have e2 : x.toNatClampNeg = q := by ((try (simp only [vp_in, Int32.toNatClampNeg, Int32.lt_iff_toInt_lt, Int32.le_iff_toInt_le, ← Int32.toInt_inj, Int32.toInt_add, Int32.toInt_sub, Int32.toInt_mul, Int32.reduceToInt, i32_neg1, Nat.reducePow, Int.reducePow, ne_eq, ge_iff_le, gt_iff_lt] at *)) <;> (first | omega | ((simp (disch := omega) only [bm32] at *) <;> omega)))
    have e3 : (x + 1).toInt = (q + 1 : Nat) := by ((try (simp only [vp_in, Int32.toNatClampNeg, Int32.lt_iff_toInt_lt, Int32.le_iff_toInt_le, ← Int32.toInt_inj, Int32.toInt_add, Int32.toInt_sub, Int32.toInt_mul, Int32.reduceToInt, i32_neg1, Nat.reducePow, Int.reducePow, ne_eq, ge_iff_le, gt_iff_lt] at *)) <;> (first | omega | ((simp (disch := omega) only [bm32] at *) <;> omega)))
    have e4 : (σ.1 44 + 1).toInt = F + 1 := by ((try (simp only [vp_in, Int32.toNatClampNeg, Int32.lt_iff_toInt_lt, Int32.le_iff_toInt_le, ← Int32.toInt_inj, Int32.toInt_add, Int32.toInt_sub, Int32.toInt_mul, Int32.reduceToInt, i32_neg1, Nat.reducePow, Int.reducePow, ne_eq, ge_iff_le, gt_iff_lt] at *)) <;> (first | omega | ((simp (disch := omega) only [bm32] at *) <;> omega)))
    simp only [S_Mo_goOn_85, F_Mo_goOn_85, e0, if_neg h10, mbind_eq, ai_1, e1, e2]
    simp only [ai_3, ai_4, show ¬ (64 = 40) by decide, false_and, if_false]
    obtain ⟨s1, f1⟩ := goOn_149_ok (F := F) (Q := q) (by omega) (by omega) (x1 := x1) (x2 := x) hx 10 n 0 (mo_al (mo_ai (mo_ai σ 40 F (σ.2.2.1 63 q)) 41 F (σ.2.2.1 64 q)) 42 F (σ.2.2.2 65 q)) 0 hF rfl (by omega) (by omega)
    rw [f1]
    simp only [cp_1, al_1, ai_1]
    have k1 := go_one (σ := σ) (F := F) (q := q) e4
    obtain ⟨s2, k2⟩ := ih n (F + 1) (q + 1) _ (x + 1) (by rw [k1.a 57 (by decide) (by decide)]; exact h57) (by rw [k1.a 58 (by decide) (by decide)]; exact h58) hK (by omega) e3 k1.f44 (by omega) (by omega)
    exact ⟨⟨v0, v0, v1, v2, v1, v2, v1, v2, s1, s2⟩, k1.trans k2⟩
end
