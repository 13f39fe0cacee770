-- pure rows: HD
section
/-! pure rows: a handle whole, and a choice, as they are written -/
section
variable {cs : Nat → ClassId} {lim : Nat × Nat} {A : Ad} {σ : mSt} {N C R F T : Nat} {M : gMem} {l k : Nat} {Lf : gMem → Nat → Int32 → Int32 → gMem} {Ls : gMem → Nat → Int32 → Int32 → Prop} {d p n a fu : Nat} {x1 x2 x3 lv : Int32} {g : Nat → Int32}
/-- a clause's row -/
def CR (A : Nat → Nat → Int32) (g : Nat → Int32) (f0 r0 q : Nat) : Prop := cOp g (r0 + 1 + q) = 10 ∧ cFd g (r0 + 1 + q) 1 = A 16 (f0 + q) ∧ cFd g (r0 + 1 + q) 3 = A 17 (f0 + q) ∧ cFd g (r0 + 1 + q) 4 = A 18 (f0 + q)
/-- what stands behind a handle's first row -/
def CH (A : Nat → Nat → Int32) (g : Nat → Int32) (d f0 mm pa pb r0 l' : Nat) : Prop := ∃ m m', Cd A g d pa (r0 + 1 + mm) m ∧ cOp g m = 11 ∧ (cFd g r0 2).toInt = (m + 1 : Nat) ∧ Cd A g d pb (m + 1) m' ∧ cOp g m' = 0 ∧ m' < l' ∧ (cFd g r0 1).toInt = (l' : Nat) ∧ ∀ q, q < mm → CB A g d f0 r0 (m' + 1) l' q
theorem co_39G (hW : HWG cs lim A σ N C F Lf Ls d) {f0 mm pa pb : Nat} (H : HC σ N C n lv d f0 mm) (hk : ((σ.2.2.1) 5 n).toInt = 8) (hv : 1 ≤ lv.toInt) (ha9 : PO σ N lv d ((σ.2.2.1) 9 n) pa) (hb10 : PO σ N lv d ((σ.2.2.1) 10 n) pb) {r0 : Nat} (hr : x3.toInt = r0) (hr2 : r0 + 1 + mm ≤ 1600) : ∀ (r j : Nat) (x4 : Int32) (fl : Nat) (M : gMem) (l k : Nat) (g : Nat → Int32), mm - j = r → j ≤ mm → x4.toInt = (f0 + j : Nat) → r + 50 < fl → NodeAt M a (ndOf (σ.2.2.1) n) → Wg cs lim A σ M N C F l k g → l = r0 + 1 + j → (l : Int) + (mm - j) + 4 * Sz σ pa + 4 * Sz σ pb + 4 * csz σ f0 mm - mm ≤ 1600 →
    S_Co_writeHandle_39 cs lim Lf Ls fl M A.co (some a) lv x3 x4 ∧ ∃ l' k' g', Wg cs lim A σ (F_Co_writeHandle_39 cs Lf fl M A.co (some a) lv x3 x4) N C F l' k' g' ∧ We cs A M (F_Co_writeHandle_39 cs Lf fl M A.co (some a) lv x3 x4) k k' ∧ l ≤ l' ∧ (l' : Int) ≤ l + ((mm - j) + 4 * Sz σ pa + 4 * Sz σ pb + 4 * csz σ f0 mm - mm - 2) ∧ (∀ i, i < l * 5 → i ≠ r0 * 5 + 1 → i ≠ r0 * 5 + 2 → (∀ q, q < j → i ≠ (r0 + 1 + q) * 5 + 2) → g' i = g i) ∧ CH (σ.2.2.1) g' d f0 mm pa pb r0 l' ∧ ∀ q, j ≤ q → q < mm → CR (σ.2.2.1) g' f0 r0 q := by
  have hf := H.f
  have hm := H.m
  have hle := H.le
  have h40 := H.c40
  have t8 : toOf (σ.2.2.1) n = (σ.2.2.1) 14 n + (σ.2.2.1) 15 n := by unfold toOf; rw [if_pos hk]
  have f7 : fromOf (σ.2.2.1) n = (σ.2.2.1) 14 n := by unfold fromOf; rw [if_pos hk]
  have e14 : ((σ.2.2.1) 14 n + (σ.2.2.1) 15 n).toInt = (f0 + mm : Nat) := by ((try (simp only [vp_in, Int32.toNatClampNeg, Int32.lt_iff_toInt_lt, Int32.le_iff_toInt_le, ← Int32.toInt_inj, Int32.toInt_add, Int32.toInt_sub, Int32.toInt_mul, Int32.reduceToInt, i32_neg1, Nat.reducePow, Int.reducePow, ne_eq, ge_iff_le, gt_iff_lt] at *)) <;> (first | omega | ((simp (disch := omega) only [bm32] at *) <;> omega)))
  have cg := csz_ge (σ := σ) (f0 := f0) (m := mm) (k := 0) (Nat.zero_le _) (fun i hi => (H.b i hi).2.2.2.2.2)
  have c0 : csz σ f0 0 = 0 := rfl
  rw [c0] at cg
  have sa := ha9.s1
  have sb := hb10.s1
  intro r
  induction r with
  | zero =>
    intro j x4 fl M l k g hr0 hj hx4 hfl ha h hlr hl
    obtain ⟨fl, rfl⟩ : ∃ z, fl = z + 1 := ⟨fl - 1, by omega⟩
    have : j = mm := by omega
    subst this
    simp only [S_Co_writeHandle_39, F_Co_writeHandle_39, mbind_eq, Option.getD_some]
    have q8 : cI M a 8 = toOf (σ.2.2.1) n := ha.2 8 (by decide)
    have hc : cI M a 8 ≤ x4 := by rw [q8, t8]; exact Int32.le_iff_toInt_le.mpr (by rw [e14, hx4]; omega)
    simp only [if_pos hc]
    have q4 : cI M a 4 = (σ.2.2.1) 9 n := ha.2 4 (by decide)
    rw [q4]
    have v9 := ha9.v
    have d9 := ha9.d1
    obtain ⟨s1, l1, k1, g1, w1, e1, h1, h1', lo1, cd1⟩ := hW M l k pa ((σ.2.2.1) 9 n) (lv + 1) g ha9.n ha9.x ha9.d (by ((try (simp only [vp_in, Int32.toNatClampNeg, Int32.lt_iff_toInt_lt, Int32.le_iff_toInt_le, ← Int32.toInt_inj, Int32.toInt_add, Int32.toInt_sub, Int32.toInt_mul, Int32.reduceToInt, i32_neg1, Nat.reducePow, Int.reducePow, ne_eq, ge_iff_le, gt_iff_lt] at *)) <;> (first | omega | ((simp (disch := omega) only [bm32] at *) <;> omega)))) (by ((try (simp only [vp_in, Int32.toNatClampNeg, Int32.lt_iff_toInt_lt, Int32.le_iff_toInt_le, ← Int32.toInt_inj, Int32.toInt_add, Int32.toInt_sub, Int32.toInt_mul, Int32.reduceToInt, i32_neg1, Nat.reducePow, Int.reducePow, ne_eq, ge_iff_le, gt_iff_lt] at *)) <;> (first | omega | ((simp (disch := omega) only [bm32] at *) <;> omega)))) (by omega) h
    generalize Lf M A.co ((σ.2.2.1) 9 n) (lv + 1) = r1 at w1 e1 ⊢
    have ha1 := ha.ext e1.ext (by decide)
    obtain ⟨s2, v2, k2, w2, e2⟩ := co_addG w1 (x1 := 11) (x2 := 0) (by omega)
    generalize F_Co_add cs r1 A.co 11 0 = r2 at v2 w2 e2 ⊢
    have ha2 := ha1.ext e2.ext (by decide)
    have len2 := w2.wk.len
    obtain ⟨s3, k3, w3, e3⟩ := co_fillG w2 (x1 := x3) (x2 := 2) (x3 := cI r2.2 A.co 2) hr (by omega) (i := 2) rfl (by decide)
    generalize F_Co_fill cs r2.2 A.co x3 2 (cI r2.2 A.co 2) = r3 at w3 e3 ⊢
    have ha3 := ha2.ext e3.ext (by decide)
    have q5 : cI r3 a 5 = (σ.2.2.1) 10 n := ha3.2 5 (by decide)
    rw [q5]
    obtain ⟨s4, m', k4, g4, w4, e4, h4, h4', lo4, cd4, c04⟩ := co_bodyG (fu := fl) hW hb10.n (x1 := (σ.2.2.1) 10 n) hb10.x hb10.d hv hb10.v hb10.d1 hb10.s1 (by omega) w3
    generalize F_Co_writeBody cs fl Lf r3 A.co ((σ.2.2.1) 10 n) lv = r4 at w4 e4 ⊢
    have ha4 := ha3.ext e4.ext (by decide)
    have q7 : cI r4 a 7 = fromOf (σ.2.2.1) n := ha4.2 7 (by decide)
    rw [q7, f7]
    obtain ⟨s5, l5, k5, g5, w5, e5, h5, h5', lo5, f5, b5⟩ := co_146G hW H hk hv hr hr2 j 0 ((σ.2.2.1) 14 n) fl r4 (m' + 1) k4 g4 (by omega) (Nat.zero_le _) (by omega) (by omega) ha4 w4 (by omega) (by rw [c0]; omega)
    rw [c0] at h5'
    have up : ∀ i, l * 5 ≤ i → i < (m' + 1) * 5 → g5 i = g4 i := fun i z1 z2 => lo5 i z2 (by omega) (fun q _ _ => by omega)
    have up1 : ∀ i, l * 5 ≤ i → i < l1 * 5 → g5 i = g1 i := fun i z1 z2 => by
      rw [up i z1 (by omega), lo4 i (by omega), upd_at, if_neg (by omega), ad_lo z2]
    refine ⟨⟨⟨a, rfl, ha.1⟩, ⟨a, rfl, ha.1⟩, h.wk.lay.co_0.1, s1, w1.wk.lay.co_0.1, s2, w2.wk.lay.co_0.1, w2.wk.lay.co_0.1, s3, ⟨a, rfl, ha3.1⟩, w3.wk.lay.co_0.1, s4, ⟨a, rfl, ha4.1⟩, s5⟩, l5, k5, g5, w5, (((e1.trans h.wk.lay.mok e2).trans h.wk.lay.mok e3).trans h.wk.lay.mok e4).trans h.wk.lay.mok e5, by omega, by omega, fun i z1 z2 z3 z4 => ?_, ⟨l1, m', ?_, ?_, ?_, cd4.cong (fun i z1 z2 => up i (by omega) (by omega)), ?_, by omega, f5, fun q hq => b5 q (Nat.zero_le _) hq⟩, fun q z1 z2 => by omega⟩
    · rw [lo5 i (by omega) z2 (fun q _ hq => z4 q hq), lo4 i (by omega), upd_at, if_neg z3, ad_lo (by omega), lo1 i z1]
    · rw [← hlr]
      exact cd1.cong up1
    · unfold cOp
      rw [up _ (by omega) (by omega), lo4 _ (by omega), upd_at, if_neg (by omega)]
      exact ad_op
    · unfold cFd
      rw [lo5 _ (by omega) (by omega) (fun q _ _ => by omega), lo4 _ (by omega), upd_at, if_pos rfl]
      exact len2
    · unfold cOp
      rw [up _ (by omega) (by omega)]
      exact c04
  | succ r ih =>
    intro j x4 fl M l k g hr0 hj hx4 hfl ha h hlr hl
    obtain ⟨fl, rfl⟩ : ∃ z, fl = z + 1 := ⟨fl - 1, by omega⟩
    have hjm : j < mm := by omega
    simp only [S_Co_writeHandle_39, F_Co_writeHandle_39, mbind_eq, Option.getD_some]
    have q8 : cI M a 8 = toOf (σ.2.2.1) n := ha.2 8 (by decide)
    have hc : ¬ cI M a 8 ≤ x4 := fun z => by
      rw [q8, t8] at z
      have := Int32.le_iff_toInt_le.mp z
      rw [e14, hx4] at this
      omega
    simp only [if_neg hc]
    have hq0 : cQ M A.co 0 = some A.ns := h.wk.lay.co_0.2
    simp only [hq0, Option.getD_some]
    obtain ⟨s2, c, v2, -, hc2⟩ := ns_clauseAt (lim := lim) h.wk.lay h.wk.ns hx4 (by omega)
    simp only [v2, Option.getD_some]
    have p0 : cI M c 0 = (σ.2.2.1) 16 (f0 + j) := hc2.2 0 (by decide)
    obtain ⟨s3, v3, k3, w3, e3⟩ := co_addG h (x1 := 10) (x2 := cI M c 0) (by omega)
    generalize F_Co_add cs M A.co 10 (cI M c 0) = r3 at v3 w3 e3 ⊢
    have hc3 := hc2.ext e3.ext (by decide)
    have p1 : cI r3.2 c 1 = (σ.2.2.1) 17 (f0 + j) := hc3.2 1 (by decide)
    obtain ⟨s4, k4, w4, e4⟩ := co_fillG w3 (x1 := r3.1) (x2 := 3) (x3 := cI r3.2 c 1) v3 (by omega) (i := 3) rfl (by decide)
    generalize F_Co_fill cs r3.2 A.co r3.1 3 (cI r3.2 c 1) = r4 at w4 e4 ⊢
    rw [p0, p1] at w4
    have hc4 := hc3.ext e4.ext (by decide)
    have p2 : cI r4 c 2 = (σ.2.2.1) 18 (f0 + j) := hc4.2 2 (by decide)
    obtain ⟨s5, k5, w5, e5⟩ := co_fillG w4 (x1 := r3.1) (x2 := 4) (x3 := cI r4 c 2) v3 (by omega) (i := 4) rfl (by decide)
    generalize F_Co_fill cs r4 A.co r3.1 4 (cI r4 c 2) = r5 at w5 e5 ⊢
    rw [p2] at w5
    have ha5 := ((ha.ext e3.ext (by decide)).ext e4.ext (by decide)).ext e5.ext (by decide)
    have hx5 : (x4 + 1).toInt = (f0 + (j + 1) : Nat) := by clear hW ih H ha9 hb10; ((try (simp only [vp_in, Int32.toNatClampNeg, Int32.lt_iff_toInt_lt, Int32.le_iff_toInt_le, ← Int32.toInt_inj, Int32.toInt_add, Int32.toInt_sub, Int32.toInt_mul, Int32.reduceToInt, i32_neg1, Nat.reducePow, Int.reducePow, ne_eq, ge_iff_le, gt_iff_lt] at *)) <;> (first | omega | ((simp (disch := omega) only [bm32] at *) <;> omega)))
    obtain ⟨s6, l6, k6, g6, w6, e6, h6, h6', lo6, ch6, cr6⟩ := ih (j + 1) (x4 + 1) fl r5 (l + 1) k5 _ (by omega) (by omega) hx5 (by omega) ha5 w5 (by omega) (by omega)
    refine ⟨⟨⟨a, rfl, ha.1⟩, h.wk.lay.co_0.1, ⟨_, rfl, h.wk.lay.ns_0.1⟩, s2, ⟨c, rfl, hc2.1⟩, h.wk.lay.co_0.1, s3, ⟨c, rfl, hc3.1⟩, w3.wk.lay.co_0.1, s4, ⟨c, rfl, hc4.1⟩, w4.wk.lay.co_0.1, s5, s6⟩, l6, k6, g6, w6, ((e3.trans h.wk.lay.mok e4).trans h.wk.lay.mok e5).trans h.wk.lay.mok e6, by omega, by omega, fun i z1 z2 z3 z4 => ?_, ch6, fun q z1 z2 => ?_⟩
    · have nz : ∀ q, q < j + 1 → i ≠ (r0 + 1 + q) * 5 + 2 := fun q hq => by
        rcases Nat.lt_or_ge q j with z | z
        · exact z4 q z
        · omega
      rw [lo6 i (by omega) z2 z3 nz, upd_at, if_neg (by omega), upd_at, if_neg (by omega), ad_lo z1]
    · by_cases hq : q = j
      · subst hq
        have er : r0 + 1 + q = l := hlr.symm
        unfold CR
        rw [er]
        refine ⟨?_, ?_, ?_, ?_⟩
        · unfold cOp
          rw [lo6 _ (by omega) (by omega) (by omega) (fun q' _ => by omega), upd_at, if_neg (by omega), upd_at, if_neg (by omega)]
          exact ad_op
        · unfold cFd
          rw [lo6 _ (by omega) (by omega) (by omega) (fun q' _ => by omega), upd_at, if_neg (by omega), upd_at, if_neg (by omega)]
          exact ad_fd
        · unfold cFd
          rw [lo6 _ (by omega) (by omega) (by omega) (fun q' _ => by omega), upd_at, if_neg (by omega), upd_at, if_pos rfl]
        · unfold cFd
          rw [lo6 _ (by omega) (by omega) (by omega) (fun q' _ => by omega), upd_at, if_pos rfl]
      · exact cr6 q (by omega) z2
end
end
