-- pure rows: HC
section
/-! pure rows: a handle and a choice, as they are written -/
section
variable {cs : Nat → ClassId} {lim : Nat × Nat} {A : Ad} {σ : mSt} {N C R F T : Nat} {M : gMem} {l k : Nat} {Lf : gMem → Nat → Int32 → Int32 → gMem} {Ls : gMem → Nat → Int32 → Int32 → Prop} {d p n a fu : Nat} {x1 x2 x3 lv : Int32} {g : Nat → Int32}
/-- the clauses' bodies -/
def CB (A : Nat → Nat → Int32) (g : Nat → Int32) (d f0 r0 lo hi q : Nat) : Prop := ∃ b b' : Nat, (cFd g (r0 + 1 + q) 2).toInt = b ∧ lo ≤ b ∧ Cd A g d (A 19 (f0 + q)).toInt.toNat b b' ∧ cOp g b' = 0 ∧ b' < hi
theorem co_146G (hW : HWG cs lim A σ N C F Lf Ls d) {f0 mm : Nat} (H : HC σ N C n lv d f0 mm) (hk : ((σ.2.2.1) 5 n).toInt = 8) (hv : 1 ≤ lv.toInt) {r0 : Nat} (hr : x3.toInt = r0) (hr2 : r0 + 1 + mm ≤ 1600) : ∀ (r j : Nat) (x4 : Int32) (fl : Nat) (M : gMem) (l k : Nat) (g : Nat → Int32), mm - j = r → j ≤ mm → x4.toInt = (f0 + j : Nat) → r < fl → NodeAt M a (ndOf (σ.2.2.1) n) → Wg cs lim A σ M N C F l k g → r0 + 1 + mm ≤ l → (l : Int) + 4 * (csz σ f0 mm - csz σ f0 j) - (mm - j) ≤ 1600 →
    S_Co_writeHandle_146 cs lim Lf Ls fl M A.co (some a) lv x3 x4 ∧ ∃ l' k' g', Wg cs lim A σ (F_Co_writeHandle_146 cs Lf fl M A.co (some a) lv x3 x4) N C F l' k' g' ∧ We cs A M (F_Co_writeHandle_146 cs Lf fl M A.co (some a) lv x3 x4) k k' ∧ l ≤ l' ∧ (l' : Int) ≤ l + (4 * (csz σ f0 mm - csz σ f0 j) - (mm - j)) ∧ (∀ i, i < l * 5 → i ≠ r0 * 5 + 1 → (∀ q, j ≤ q → q < mm → i ≠ (r0 + 1 + q) * 5 + 2) → g' i = g i) ∧ (cFd g' r0 1).toInt = (l' : Nat) ∧ ∀ q, j ≤ q → q < mm → CB (σ.2.2.1) g' d f0 r0 l l' q := by
  have hf := H.f
  have hm := H.m
  have hle := H.le
  have h40 := H.c40
  have t8 : toOf (σ.2.2.1) n = (σ.2.2.1) 14 n + (σ.2.2.1) 15 n := by unfold toOf; rw [if_pos hk]
  have f7 : fromOf (σ.2.2.1) n = (σ.2.2.1) 14 n := by unfold fromOf; rw [if_pos hk]
  have e14 : ((σ.2.2.1) 14 n + (σ.2.2.1) 15 n).toInt = (f0 + mm : Nat) := by ((try (simp only [vp_in, Int32.toNatClampNeg, Int32.lt_iff_toInt_lt, Int32.le_iff_toInt_le, ← Int32.toInt_inj, Int32.toInt_add, Int32.toInt_sub, Int32.toInt_mul, Int32.reduceToInt, i32_neg1, Nat.reducePow, Int.reducePow, ne_eq, ge_iff_le, gt_iff_lt] at *)) <;> (first | omega | ((simp (disch := omega) only [bm32] at *) <;> omega)))
  intro r
  induction r with
  | zero =>
    intro j x4 fl M l k g hr0 hj hx4 hfl ha h hrl hl
    obtain ⟨fl, rfl⟩ : ∃ z, fl = z + 1 := ⟨fl - 1, by omega⟩
    simp only [S_Co_writeHandle_146, F_Co_writeHandle_146, mbind_eq, Option.getD_some]
    have q8 : cI M a 8 = toOf (σ.2.2.1) n := ha.2 8 (by decide)
    have hc : cI M a 8 ≤ x4 := by rw [q8, t8]; exact Int32.le_iff_toInt_le.mpr (by rw [e14, hx4]; omega)
    simp only [if_pos hc]
    obtain ⟨s1, k1, w1, e1⟩ := co_fillG h (x1 := x3) (x2 := 1) (x3 := cI M A.co 2) hr (by omega) (i := 1) rfl (by decide)
    have : j = mm := by omega
    subst this
    refine ⟨⟨⟨a, rfl, ha.1⟩, h.wk.lay.co_0.1, h.wk.lay.co_0.1, s1, trivial⟩, l, k1, _, w1, e1, Nat.le_refl _, by omega, fun i _ hi _ => ?_, ?_, fun q h1 h2 => by omega⟩
    · rw [upd_at, if_neg hi]
    · rw [fl_fd]; exact h.wk.len
  | succ r ih =>
    intro j x4 fl M l k g hr0 hj hx4 hfl ha h hrl hl
    obtain ⟨fl, rfl⟩ : ∃ z, fl = z + 1 := ⟨fl - 1, by omega⟩
    have hjm : j < mm := by omega
    obtain ⟨b1, b2, b3, b4, b5, b6⟩ := H.b j hjm
    have cm := csz_ge (σ := σ) (f0 := f0) (m := mm) (k := j + 1) (by omega) (fun i hi => (H.b i hi).2.2.2.2.2)
    rw [csz_step] at cm
    simp only [S_Co_writeHandle_146, F_Co_writeHandle_146, mbind_eq, Option.getD_some]
    have q8 : cI M a 8 = toOf (σ.2.2.1) n := ha.2 8 (by decide)
    have q7 : cI M a 7 = fromOf (σ.2.2.1) n := ha.2 7 (by decide)
    have hc : ¬ cI M a 8 ≤ x4 := fun z => by
      rw [q8, t8] at z
      have := Int32.le_iff_toInt_le.mp z
      rw [e14, hx4] at this
      omega
    simp only [if_neg hc]
    rw [q7, f7]
    have er : (x3 + 1 + x4 - (σ.2.2.1) 14 n).toInt = (r0 + 1 + j : Nat) := by clear hW ih H; ((try (simp only [vp_in, Int32.toNatClampNeg, Int32.lt_iff_toInt_lt, Int32.le_iff_toInt_le, ← Int32.toInt_inj, Int32.toInt_add, Int32.toInt_sub, Int32.toInt_mul, Int32.reduceToInt, i32_neg1, Nat.reducePow, Int.reducePow, ne_eq, ge_iff_le, gt_iff_lt] at *)) <;> (first | omega | ((simp (disch := omega) only [bm32] at *) <;> omega)))
    have len := h.wk.len
    obtain ⟨s1, k1, w1, e1⟩ := co_fillG h (x1 := x3 + 1 + x4 - (σ.2.2.1) 14 n) (x2 := 2) (x3 := cI M A.co 2) er (by omega) (i := 2) rfl (by decide)
    generalize F_Co_fill cs M A.co (x3 + 1 + x4 - (σ.2.2.1) 14 n) 2 (cI M A.co 2) = r1 at w1 e1 ⊢
    have hq0 : cQ r1 A.co 0 = some A.ns := w1.wk.lay.co_0.2
    simp only [hq0, Option.getD_some]
    obtain ⟨s2, c, v2, -, hc2⟩ := ns_clauseAt (lim := lim) w1.wk.lay w1.wk.ns hx4 (by omega)
    simp only [v2, Option.getD_some]
    have q3 : cI r1 c 3 = cdOf (σ.2.2.1) (f0 + j) 3 := hc2.2 3 (by decide)
    rw [q3]
    have ecd : cdOf (σ.2.2.1) (f0 + j) 3 = (σ.2.2.1) 19 (f0 + j) := rfl
    rw [ecd]
    obtain ⟨s3, m, k3, g3, w3, e3, h3, h3', lo3, cd3, c03⟩ := co_bodyG (fu := fl) hW b2 (x1 := (σ.2.2.1) 19 (f0 + j)) (by omega) b3 hv b4 b5 b6 (by omega) w1
    generalize F_Co_writeBody cs fl Lf r1 A.co ((σ.2.2.1) 19 (f0 + j)) lv = r3 at w3 e3 ⊢
    have ha1 := ha.ext e1.ext (by decide)
    have ha3 := ha1.ext e3.ext (by decide)
    have hx5 : (x4 + 1).toInt = (f0 + (j + 1) : Nat) := by clear hW ih H; ((try (simp only [vp_in, Int32.toNatClampNeg, Int32.lt_iff_toInt_lt, Int32.le_iff_toInt_le, ← Int32.toInt_inj, Int32.toInt_add, Int32.toInt_sub, Int32.toInt_mul, Int32.reduceToInt, i32_neg1, Nat.reducePow, Int.reducePow, ne_eq, ge_iff_le, gt_iff_lt] at *)) <;> (first | omega | ((simp (disch := omega) only [bm32] at *) <;> omega)))
    obtain ⟨s4, l4, k4, g4, w4, e4, h4, h4', lo4, c4, b4'⟩ := ih (j + 1) (x4 + 1) fl r3 (m + 1) k3 g3 (by omega) (by omega) hx5 (by omega) ha3 w3 (by omega) (by rw [csz_step]; omega)
    rw [csz_step] at h4'
    have hi4 : ∀ i, l * 5 ≤ i → i < (m + 1) * 5 → g4 i = g3 i := fun i h1 h2 => lo4 i h2 (by omega) (fun q _ _ => by omega)
    refine ⟨⟨⟨a, rfl, ha.1⟩, ⟨a, rfl, ha.1⟩, h.wk.lay.co_0.1, h.wk.lay.co_0.1, s1, w1.wk.lay.co_0.1, ⟨_, rfl, w1.wk.lay.ns_0.1⟩, s2, ⟨c, rfl, hc2.1⟩, w1.wk.lay.co_0.1, s3, s4⟩, l4, k4, g4, w4, (e1.trans h.wk.lay.mok e3).trans h.wk.lay.mok e4, by omega, by omega, fun i h1 h2 h5 => ?_, c4, fun q h1 h2 => ?_⟩
    · rw [lo4 i (by omega) h2 (fun q z1 z2 => h5 q (by omega) z2), lo3 i h1, upd_at, if_neg (h5 j (Nat.le_refl _) hjm)]
    · by_cases hq : q = j
      · subst hq
        refine ⟨l, m, ?_, Nat.le_refl _, cd3.cong (fun i z1 z2 => hi4 i z1 (by omega)), ?_, by omega⟩
        · unfold cFd
          rw [lo4 _ (by omega) (by omega) (fun q' z1 z2 => by omega), lo3 _ (by omega), upd_at, if_pos rfl]
          exact len
        · unfold cOp
          rw [hi4 _ (by omega) (by omega)]
          exact c03
      · obtain ⟨b, b', y1, y2, y3⟩ := b4' q (by omega) h2
        exact ⟨b, b', y1, by omega, y3⟩
end
end
