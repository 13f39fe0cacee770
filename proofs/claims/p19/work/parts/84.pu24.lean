-- pure rows: DL DM EA FA
section
/-! pure rows, the class: a program is written whole -/
/-- what is known of a part -/
def PO (σ : mSt) (N : Nat) (lv : Int32) (d : Nat) (x : Int32) (p : Nat) : Prop := (x.toInt = p) ∧ (p < N) ∧ (Dp σ p ≤ d) ∧ (lv.toInt + 1 + Dp σ p ≤ 41) ∧ (1 ≤ Dp σ p) ∧ (1 ≤ Sz σ p)
theorem PO.x {σ : mSt} {N : Nat} {lv : Int32} {d : Nat} {x : Int32} {p : Nat} (self : PO σ N lv d x p) : x.toInt = p := self.1
theorem PO.n {σ : mSt} {N : Nat} {lv : Int32} {d : Nat} {x : Int32} {p : Nat} (self : PO σ N lv d x p) : p < N := self.2.1
theorem PO.d {σ : mSt} {N : Nat} {lv : Int32} {d : Nat} {x : Int32} {p : Nat} (self : PO σ N lv d x p) : Dp σ p ≤ d := self.2.2.1
theorem PO.v {σ : mSt} {N : Nat} {lv : Int32} {d : Nat} {x : Int32} {p : Nat} (self : PO σ N lv d x p) : lv.toInt + 1 + Dp σ p ≤ 41 := self.2.2.2.1
theorem PO.d1 {σ : mSt} {N : Nat} {lv : Int32} {d : Nat} {x : Int32} {p : Nat} (self : PO σ N lv d x p) : 1 ≤ Dp σ p := self.2.2.2.2.1
theorem PO.s1 {σ : mSt} {N : Nat} {lv : Int32} {d : Nat} {x : Int32} {p : Nat} (self : PO σ N lv d x p) : 1 ≤ Sz σ p := self.2.2.2.2.2
section
variable {cs : Nat → ClassId} {lim : Nat × Nat} {A : Ad} {σ : mSt} {N C R F T : Nat} {M : gMem} {l k : Nat} {Lf : gMem → Nat → Int32 → Int32 → gMem} {Ls : gMem → Nat → Int32 → Int32 → Prop} {d p n a fu : Nat} {x1 x2 x3 lv : Int32}
theorem co_39 (hW : HW cs lim A σ N C F Lf Ls d) {f0 mm pa pb : Nat} (H : HC σ N C n lv d f0 mm) (hk : ((σ.2.2.1) 5 n).toInt = 8) (hv : 1 ≤ lv.toInt) (ha9 : PO σ N lv d ((σ.2.2.1) 9 n) pa) (hb10 : PO σ N lv d ((σ.2.2.1) 10 n) pb) {r0 : Nat} (hr : x3.toInt = r0) (hr2 : r0 + 1 + mm ≤ 1600) : ∀ (r j : Nat) (x4 : Int32) (fl : Nat) (M : gMem) (l k : Nat), mm - j = r → j ≤ mm → x4.toInt = (f0 + j : Nat) → r + 50 < fl → NodeAt M a (ndOf (σ.2.2.1) n) → Wk cs lim A σ M N C F l k → (l : Int) + (mm - j) + 4 * Sz σ pa + 4 * Sz σ pb + 4 * csz σ f0 mm - mm ≤ 1600 →
    S_Co_writeHandle_39 cs lim Lf Ls fl M A.co (some a) lv x3 x4 ∧ Wb cs lim A σ N C F M l k ((mm - j) + 4 * Sz σ pa + 4 * Sz σ pb + 4 * csz σ f0 mm - mm - 2) (F_Co_writeHandle_39 cs Lf fl M A.co (some a) lv x3 x4) := by
  have hf := H.f
  have hm := H.m
  have hle := H.le
  have h40 := H.c40
  have t8 : toOf (σ.2.2.1) n = (σ.2.2.1) 14 n + (σ.2.2.1) 15 n := by unfold toOf; rw [if_pos hk]
  have f7 : fromOf (σ.2.2.1) n = (σ.2.2.1) 14 n := by unfold fromOf; rw [if_pos hk]
  have e14 : ((σ.2.2.1) 14 n + (σ.2.2.1) 15 n).toInt = (f0 + mm : Nat) := by ((try (simp only [vp_in, Int32.toNatClampNeg, Int32.lt_iff_toInt_lt, Int32.le_iff_toInt_le, ← Int32.toInt_inj, Int32.toInt_add, Int32.toInt_sub, Int32.toInt_mul, Int32.reduceToInt, i32_neg1, Nat.reducePow, Int.reducePow, ne_eq, ge_iff_le, gt_iff_lt] at *)) <;> (first | omega | ((simp (disch := omega) only [bm32] at *) <;> omega)))
  have cg := csz_ge (σ := σ) (f0 := f0) (m := mm) (k := 0) (Nat.zero_le _) (fun i hi => (H.b i hi).2.2.2.2.2)
  have c0 : csz σ f0 0 = 0 := rfl
  rw [c0] at cg
  have sa := ha9.s1
  have sb := hb10.s1
  intro r
  induction r with
  | zero =>
    intro j x4 fl M l k hr0 hj hx4 hfl ha h hl
    obtain ⟨fl, rfl⟩ : ∃ z, fl = z + 1 := ⟨fl - 1, by omega⟩
    have : j = mm := by omega
    subst this
    simp only [S_Co_writeHandle_39, F_Co_writeHandle_39, mbind_eq, Option.getD_some]
    have q8 : cI M a 8 = toOf (σ.2.2.1) n := ha.2 8 (by decide)
    have hc : cI M a 8 ≤ x4 := by rw [q8, t8]; exact Int32.le_iff_toInt_le.mpr (by rw [e14, hx4]; omega)
    simp only [if_pos hc]
    have q4 : cI M a 4 = (σ.2.2.1) 9 n := ha.2 4 (by decide)
    rw [q4]
    have v9 := ha9.v
    have d9 := ha9.d1
    obtain ⟨s1, l1, k1, w1, e1, h1, h1'⟩ := hW M l k pa ((σ.2.2.1) 9 n) (lv + 1) ha9.n ha9.x ha9.d (by ((try (simp only [vp_in, Int32.toNatClampNeg, Int32.lt_iff_toInt_lt, Int32.le_iff_toInt_le, ← Int32.toInt_inj, Int32.toInt_add, Int32.toInt_sub, Int32.toInt_mul, Int32.reduceToInt, i32_neg1, Nat.reducePow, Int.reducePow, ne_eq, ge_iff_le, gt_iff_lt] at *)) <;> (first | omega | ((simp (disch := omega) only [bm32] at *) <;> omega)))) (by ((try (simp only [vp_in, Int32.toNatClampNeg, Int32.lt_iff_toInt_lt, Int32.le_iff_toInt_le, ← Int32.toInt_inj, Int32.toInt_add, Int32.toInt_sub, Int32.toInt_mul, Int32.reduceToInt, i32_neg1, Nat.reducePow, Int.reducePow, ne_eq, ge_iff_le, gt_iff_lt] at *)) <;> (first | omega | ((simp (disch := omega) only [bm32] at *) <;> omega)))) (by omega) h
    generalize Lf M A.co ((σ.2.2.1) 9 n) (lv + 1) = r1 at w1 e1 ⊢
    have ha1 := ha.ext e1.ext (by decide)
    obtain ⟨s2, v2, k2, w2, e2⟩ := co_add w1 (x1 := 11) (x2 := 0) (by omega)
    generalize F_Co_add cs r1 A.co 11 0 = r2 at v2 w2 e2 ⊢
    have ha2 := ha1.ext e2.ext (by decide)
    obtain ⟨s3, k3, w3, e3⟩ := co_fill w2 (x1 := x3) (x2 := 2) (x3 := cI r2.2 A.co 2) hr (by omega) (i := 2) rfl (by decide)
    generalize F_Co_fill cs r2.2 A.co x3 2 (cI r2.2 A.co 2) = r3 at w3 e3 ⊢
    have ha3 := ha2.ext e3.ext (by decide)
    have q5 : cI r3 a 5 = (σ.2.2.1) 10 n := ha3.2 5 (by decide)
    rw [q5]
    obtain ⟨s4, l4, k4, w4, e4, h4, h4'⟩ := co_body (fu := fl) hW hb10.n (x1 := (σ.2.2.1) 10 n) hb10.x hb10.d hv hb10.v hb10.d1 hb10.s1 (by omega) w3
    generalize F_Co_writeBody cs fl Lf r3 A.co ((σ.2.2.1) 10 n) lv = r4 at w4 e4 ⊢
    have ha4 := ha3.ext e4.ext (by decide)
    have q7 : cI r4 a 7 = fromOf (σ.2.2.1) n := ha4.2 7 (by decide)
    rw [q7, f7]
    obtain ⟨s5, l5, k5, w5, e5, h5, h5'⟩ := co_146 hW H hk hv hr hr2 j 0 ((σ.2.2.1) 14 n) fl r4 l4 k4 (by omega) (Nat.zero_le _) (by omega) (by omega) ha4 w4 (by rw [c0]; omega)
    rw [c0] at h5'
    refine ⟨⟨⟨a, rfl, ha.1⟩, ⟨a, rfl, ha.1⟩, h.lay.co_0.1, s1, w1.lay.co_0.1, s2, w2.lay.co_0.1, w2.lay.co_0.1, s3, ⟨a, rfl, ha3.1⟩, w3.lay.co_0.1, s4, ⟨a, rfl, ha4.1⟩, s5⟩, l5, k5, w5, (((e1.trans h.lay.mok e2).trans h.lay.mok e3).trans h.lay.mok e4).trans h.lay.mok e5, by omega, by omega⟩
  | succ r ih =>
    intro j x4 fl M l k hr0 hj hx4 hfl ha h hl
    obtain ⟨fl, rfl⟩ : ∃ z, fl = z + 1 := ⟨fl - 1, by omega⟩
    have hjm : j < mm := by omega
    simp only [S_Co_writeHandle_39, F_Co_writeHandle_39, mbind_eq, Option.getD_some]
    have q8 : cI M a 8 = toOf (σ.2.2.1) n := ha.2 8 (by decide)
    have hc : ¬ cI M a 8 ≤ x4 := fun z => by
      rw [q8, t8] at z
      have := Int32.le_iff_toInt_le.mp z
      rw [e14, hx4] at this
      omega
    simp only [if_neg hc]
    have hq0 : cQ M A.co 0 = some A.ns := h.lay.co_0.2
    simp only [hq0, Option.getD_some]
    obtain ⟨s2, c, v2, -, hc2⟩ := ns_clauseAt (lim := lim) h.lay h.ns hx4 (by omega)
    simp only [v2, Option.getD_some]
    obtain ⟨s3, v3, k3, w3, e3⟩ := co_add h (x1 := 10) (x2 := cI M c 0) (by omega)
    generalize F_Co_add cs M A.co 10 (cI M c 0) = r3 at v3 w3 e3 ⊢
    have hc3 := hc2.ext e3.ext (by decide)
    obtain ⟨s4, k4, w4, e4⟩ := co_fill w3 (x1 := r3.1) (x2 := 3) (x3 := cI r3.2 c 1) v3 (by omega) (i := 3) rfl (by decide)
    generalize F_Co_fill cs r3.2 A.co r3.1 3 (cI r3.2 c 1) = r4 at w4 e4 ⊢
    have hc4 := hc3.ext e4.ext (by decide)
    obtain ⟨s5, k5, w5, e5⟩ := co_fill w4 (x1 := r3.1) (x2 := 4) (x3 := cI r4 c 2) v3 (by omega) (i := 4) rfl (by decide)
    generalize F_Co_fill cs r4 A.co r3.1 4 (cI r4 c 2) = r5 at w5 e5 ⊢
    have ha5 := ((ha.ext e3.ext (by decide)).ext e4.ext (by decide)).ext e5.ext (by decide)
    have hx5 : (x4 + 1).toInt = (f0 + (j + 1) : Nat) := by clear hW ih H ha9 hb10; ((try (simp only [vp_in, Int32.toNatClampNeg, Int32.lt_iff_toInt_lt, Int32.le_iff_toInt_le, ← Int32.toInt_inj, Int32.toInt_add, Int32.toInt_sub, Int32.toInt_mul, Int32.reduceToInt, i32_neg1, Nat.reducePow, Int.reducePow, ne_eq, ge_iff_le, gt_iff_lt] at *)) <;> (first | omega | ((simp (disch := omega) only [bm32] at *) <;> omega)))
    obtain ⟨s6, l6, k6, w6, e6, h6, h6'⟩ := ih (j + 1) (x4 + 1) fl r5 (l + 1) k5 (by omega) (by omega) hx5 (by omega) ha5 w5 (by omega)
    exact ⟨⟨⟨a, rfl, ha.1⟩, h.lay.co_0.1, ⟨_, rfl, h.lay.ns_0.1⟩, s2, ⟨c, rfl, hc2.1⟩, h.lay.co_0.1, s3, ⟨c, rfl, hc3.1⟩, w3.lay.co_0.1, s4, ⟨c, rfl, hc4.1⟩, w4.lay.co_0.1, s5, s6⟩, l6, k6, w6, ((e3.trans h.lay.mok e4).trans h.lay.mok e5).trans h.lay.mok e6, by omega, by omega⟩
theorem co_handle (hW : HW cs lim A σ N C F Lf Ls d) {f0 mm pa pb : Nat} (H : HC σ N C n lv d f0 mm) (hk : ((σ.2.2.1) 5 n).toInt = 8) (hv : 1 ≤ lv.toInt) (ha9 : PO σ N lv d ((σ.2.2.1) 9 n) pa) (hb10 : PO σ N lv d ((σ.2.2.1) 10 n) pb) (hfu : 200 ≤ fu) (ha : NodeAt M a (ndOf (σ.2.2.1) n)) (h : Wk cs lim A σ M N C F l k) (hl : (l : Int) + 1 + 4 * Sz σ pa + 4 * Sz σ pb + 4 * csz σ f0 mm ≤ 1600) :
    S_Co_writeHandle cs lim fu Lf Ls M A.co (some a) lv ∧ Wb cs lim A σ N C F M l k (4 * Sz σ pa + 4 * Sz σ pb + 4 * csz σ f0 mm - 1) (F_Co_writeHandle cs fu Lf M A.co (some a) lv) := by
  have hf := H.f
  have hle := H.le
  have h40 := H.c40
  have f7 : fromOf (σ.2.2.1) n = (σ.2.2.1) 14 n := by unfold fromOf; rw [if_pos hk]
  have cg := csz_ge (σ := σ) (f0 := f0) (m := mm) (k := 0) (Nat.zero_le _) (fun i hi => (H.b i hi).2.2.2.2.2)
  have c0 : csz σ f0 0 = 0 := rfl
  rw [c0] at cg
  have sa := ha9.s1
  have sb := hb10.s1
  unfold S_Co_writeHandle F_Co_writeHandle
  simp only [mbind_eq, Option.getD_some]
  obtain ⟨s1, v1, k1, w1, e1⟩ := co_add h (x1 := 9) (x2 := 0) (by omega)
  generalize F_Co_add cs M A.co 9 0 = r1 at v1 w1 e1 ⊢
  have ha1 := ha.ext e1.ext (by decide)
  obtain ⟨s2, k2, w2, e2⟩ := co_fill w1 (x1 := r1.1) (x2 := 3) (x3 := cI r1.2 a 2) v1 (by omega) (i := 3) rfl (by decide)
  generalize F_Co_fill cs r1.2 A.co r1.1 3 (cI r1.2 a 2) = r2 at w2 e2 ⊢
  have ha2 := ha1.ext e2.ext (by decide)
  obtain ⟨s3, k3, w3, e3⟩ := co_fill w2 (x1 := r1.1) (x2 := 4) (x3 := cI r2 a 8 - cI r2 a 7) v1 (by omega) (i := 4) rfl (by decide)
  generalize F_Co_fill cs r2 A.co r1.1 4 (cI r2 a 8 - cI r2 a 7) = r3 at w3 e3 ⊢
  have ha3 := ha2.ext e3.ext (by decide)
  have q7 : cI r3 a 7 = fromOf (σ.2.2.1) n := ha3.2 7 (by decide)
  rw [q7, f7]
  obtain ⟨s4, l4, k4, w4, e4, h4, h4'⟩ := co_39 hW H hk hv ha9 hb10 v1 (by omega) mm 0 ((σ.2.2.1) 14 n) fu r3 (l + 1) k3 (by omega) (Nat.zero_le _) (by omega) (by omega) ha3 w3 (by omega)
  exact ⟨⟨h.lay.co_0.1, s1, ⟨a, rfl, ha1.1⟩, w1.lay.co_0.1, s2, ⟨a, rfl, ha2.1⟩, ⟨a, rfl, ha2.1⟩, w2.lay.co_0.1, s3, ⟨a, rfl, ha3.1⟩, s4⟩, l4, k4, w4, ((e1.trans h.lay.mok e2).trans h.lay.mok e3).trans h.lay.mok e4, by omega, by omega⟩
theorem co_choice (hW : HW cs lim A σ N C F Lf Ls d) {pa pb pc : Nat} (hv : 1 ≤ lv.toInt) (h9 : PO σ N lv d ((σ.2.2.1) 9 n) pa) (h10 : PO σ N lv d ((σ.2.2.1) 10 n) pb) (h11 : PO σ N lv d ((σ.2.2.1) 11 n) pc) (ha : NodeAt M a (ndOf (σ.2.2.1) n)) (h : Wk cs lim A σ M N C F l k) (hl : (l : Int) + 4 * Sz σ pa + 4 * Sz σ pb + 4 * Sz σ pc ≤ 1600) :
    S_Co_writeChoice cs lim fu Lf Ls M A.co (some a) lv ∧ Wb cs lim A σ N C F M l k (4 * Sz σ pa + 4 * Sz σ pb + 4 * Sz σ pc - 4) (F_Co_writeChoice cs fu Lf M A.co (some a) lv) := by
  have sa := h9.s1
  have sb := h10.s1
  have sc := h11.s1
  have v9 := h9.v
  have d9 := h9.d1
  have v10 := h10.v
  have d10 := h10.d1
  have v11 := h11.v
  have d11 := h11.d1
  unfold S_Co_writeChoice F_Co_writeChoice
  simp only [mbind_eq, Option.getD_some]
  have q4 : cI M a 4 = (σ.2.2.1) 9 n := ha.2 4 (by decide)
  rw [q4]
  obtain ⟨s1, l1, k1, w1, e1, h1, h1'⟩ := hW M l k pa ((σ.2.2.1) 9 n) (lv + 1) h9.n h9.x h9.d (by ((try (simp only [vp_in, Int32.toNatClampNeg, Int32.lt_iff_toInt_lt, Int32.le_iff_toInt_le, ← Int32.toInt_inj, Int32.toInt_add, Int32.toInt_sub, Int32.toInt_mul, Int32.reduceToInt, i32_neg1, Nat.reducePow, Int.reducePow, ne_eq, ge_iff_le, gt_iff_lt] at *)) <;> (first | omega | ((simp (disch := omega) only [bm32] at *) <;> omega)))) (by ((try (simp only [vp_in, Int32.toNatClampNeg, Int32.lt_iff_toInt_lt, Int32.le_iff_toInt_le, ← Int32.toInt_inj, Int32.toInt_add, Int32.toInt_sub, Int32.toInt_mul, Int32.reduceToInt, i32_neg1, Nat.reducePow, Int.reducePow, ne_eq, ge_iff_le, gt_iff_lt] at *)) <;> (first | omega | ((simp (disch := omega) only [bm32] at *) <;> omega)))) (by omega) h
  generalize Lf M A.co ((σ.2.2.1) 9 n) (lv + 1) = r1 at w1 e1 ⊢
  have ha1 := ha.ext e1.ext (by decide)
  obtain ⟨s2, v2, k2, w2, e2⟩ := co_add w1 (x1 := 6) (x2 := 0) (by omega)
  generalize F_Co_add cs r1 A.co 6 0 = r2 at v2 w2 e2 ⊢
  have ha2 := ha1.ext e2.ext (by decide)
  have q5 : cI r2.2 a 5 = (σ.2.2.1) 10 n := ha2.2 5 (by decide)
  rw [q5]
  obtain ⟨s3, l3, k3, w3, e3, h3, h3'⟩ := hW r2.2 (l1 + 1) k2 pb ((σ.2.2.1) 10 n) (lv + 1) h10.n h10.x h10.d (by ((try (simp only [vp_in, Int32.toNatClampNeg, Int32.lt_iff_toInt_lt, Int32.le_iff_toInt_le, ← Int32.toInt_inj, Int32.toInt_add, Int32.toInt_sub, Int32.toInt_mul, Int32.reduceToInt, i32_neg1, Nat.reducePow, Int.reducePow, ne_eq, ge_iff_le, gt_iff_lt] at *)) <;> (first | omega | ((simp (disch := omega) only [bm32] at *) <;> omega)))) (by ((try (simp only [vp_in, Int32.toNatClampNeg, Int32.lt_iff_toInt_lt, Int32.le_iff_toInt_le, ← Int32.toInt_inj, Int32.toInt_add, Int32.toInt_sub, Int32.toInt_mul, Int32.reduceToInt, i32_neg1, Nat.reducePow, Int.reducePow, ne_eq, ge_iff_le, gt_iff_lt] at *)) <;> (first | omega | ((simp (disch := omega) only [bm32] at *) <;> omega)))) (by omega) w2
  generalize Lf r2.2 A.co ((σ.2.2.1) 10 n) (lv + 1) = r3 at w3 e3 ⊢
  have ha3 := ha2.ext e3.ext (by decide)
  obtain ⟨s4, v4, k4, w4, e4⟩ := co_add w3 (x1 := 5) (x2 := 0) (by omega)
  generalize F_Co_add cs r3 A.co 5 0 = r4 at v4 w4 e4 ⊢
  have ha4 := ha3.ext e4.ext (by decide)
  obtain ⟨s5, k5, w5, e5⟩ := co_fill w4 (x1 := r2.1) (x2 := 1) (x3 := cI r4.2 A.co 2) v2 (by omega) (i := 1) rfl (by decide)
  generalize F_Co_fill cs r4.2 A.co r2.1 1 (cI r4.2 A.co 2) = r5 at w5 e5 ⊢
  have ha5 := ha4.ext e5.ext (by decide)
  have q6 : cI r5 a 6 = (σ.2.2.1) 11 n := ha5.2 6 (by decide)
  rw [q6]
  obtain ⟨s6, l6, k6, w6, e6, h6, h6'⟩ := hW r5 (l3 + 1) k5 pc ((σ.2.2.1) 11 n) (lv + 1) h11.n h11.x h11.d (by ((try (simp only [vp_in, Int32.toNatClampNeg, Int32.lt_iff_toInt_lt, Int32.le_iff_toInt_le, ← Int32.toInt_inj, Int32.toInt_add, Int32.toInt_sub, Int32.toInt_mul, Int32.reduceToInt, i32_neg1, Nat.reducePow, Int.reducePow, ne_eq, ge_iff_le, gt_iff_lt] at *)) <;> (first | omega | ((simp (disch := omega) only [bm32] at *) <;> omega)))) (by ((try (simp only [vp_in, Int32.toNatClampNeg, Int32.lt_iff_toInt_lt, Int32.le_iff_toInt_le, ← Int32.toInt_inj, Int32.toInt_add, Int32.toInt_sub, Int32.toInt_mul, Int32.reduceToInt, i32_neg1, Nat.reducePow, Int.reducePow, ne_eq, ge_iff_le, gt_iff_lt] at *)) <;> (first | omega | ((simp (disch := omega) only [bm32] at *) <;> omega)))) (by omega) w5
  generalize Lf r5 A.co ((σ.2.2.1) 11 n) (lv + 1) = r6 at w6 e6 ⊢
  obtain ⟨s7, k7, w7, e7⟩ := co_fill w6 (x1 := r4.1) (x2 := 1) (x3 := cI r6 A.co 2) v4 (by omega) (i := 1) rfl (by decide)
  generalize F_Co_fill cs r6 A.co r4.1 1 (cI r6 A.co 2) = r7 at w7 e7 ⊢
  exact ⟨⟨⟨a, rfl, ha.1⟩, h.lay.co_0.1, s1, w1.lay.co_0.1, s2, ⟨a, rfl, ha2.1⟩, w2.lay.co_0.1, s3, w3.lay.co_0.1, s4, w4.lay.co_0.1, w4.lay.co_0.1, s5, ⟨a, rfl, ha5.1⟩, w5.lay.co_0.1, s6, w6.lay.co_0.1, w6.lay.co_0.1, s7, trivial⟩, l6, k7, w7, ((((((e1.trans h.lay.mok e2).trans h.lay.mok e3).trans h.lay.mok e4).trans h.lay.mok e5).trans h.lay.mok e6).trans h.lay.mok e7), by omega, by omega⟩
end
end
section
/-! pure rows, the class: write, compile -/
section
variable {cs : Nat → ClassId} {lim : Nat × Nat} {A : Ad} {σ : mSt} {N C R F T : Nat} {M : gMem} {l k : Nat} {d n a fu : Nat} {lv : Int32}
theorem part_po (X : Ctx σ N C R T) (hn : n < N) {q : Int32} (hq : Pt σ n q) (hne : q ≠ -1) (hd : Dp σ n ≤ d + 1) (hv : lv.toInt + Dp σ n ≤ 41) : PO σ N lv d q q.toInt.toNat := by
  obtain ⟨p1, p2, p3⟩ := part_of hq hne
  have N1 := X.nok.nd _ (Nat.lt_trans p2 hn)
  have := N1.dp
  have := N1.s1
  exact ⟨p1, Nat.lt_trans p2 hn, by omega, by omega, by omega, by omega⟩
theorem co_write (X : Ctx σ N C R T) (hf : 200 ≤ fu) : ∀ d, HW cs lim A σ N C F (F_Co_write cs fu d) (S_Co_write cs lim fu d) d := by
  intro d
  induction d with
  | zero =>
    intro M l k m x lv hm hx hd
    have := (X.nok.nd m hm).dp
    omega
  | succ d ih =>
    intro M l k n x lv hn hx hd hv hv2 hl h
    have N0 := X.nok.nd n hn
    have dp := N0.dp
    have s1 := N0.s1
    have kk := N0.k
    have s2 := N0.s2 (by omega)
    have hq0 : cQ M A.co 0 = some A.ns := h.lay.co_0.2
    obtain ⟨sat, a, va, -, ha⟩ := ns_at (lim := lim) h.lay h.ns hx hn
    have h40 : lv ≤ 40 := by ((try (simp only [vp_in, Int32.toNatClampNeg, Int32.lt_iff_toInt_lt, Int32.le_iff_toInt_le, ← Int32.toInt_inj, Int32.toInt_add, Int32.toInt_sub, Int32.toInt_mul, Int32.reduceToInt, i32_neg1, Nat.reducePow, Int.reducePow, ne_eq, ge_iff_le, gt_iff_lt] at *)) <;> (first | omega | ((simp (disch := omega) only [bm32] at *) <;> omega)))
    simp only [S_Co_write, F_Co_write, if_pos h40, mbind_eq, hq0, Option.getD_some, va]
    have q0 : cI M a 0 = (σ.2.2.1) 5 n := ha.2 0 (by decide)
    have b1 := h.lay.co_0.1
    have b2 : cOq 3 M (some A.ns) := ⟨_, rfl, h.lay.ns_0.1⟩
    have b3 : cOq 4 M (some a) := ⟨a, rfl, ha.1⟩
    have K0 : ∀ z : Int32, ∀ y : Int, z.toInt = y → (cI M a 0 = z ↔ ((σ.2.2.1) 5 n).toInt = y) := fun z y hz => by rw [q0, ← Int32.toInt_inj, hz]
    have kd3 := K0 3 3 rfl
    have kd4 := K0 4 4 rfl
    have kd5 := K0 5 5 rfl
    have kd6 := K0 6 6 rfl
    have kd7 := K0 7 7 rfl
    have kd8 := K0 8 8 rfl
    have kd9 := K0 9 9 rfl
    have kd10 := K0 10 10 rfl
    have kd11 := K0 11 11 rfl
    have pA : 4 ≤ ((σ.2.2.1) 5 n).toInt → PO σ N lv d ((σ.2.2.1) 9 n) ((σ.2.2.1) 9 n).toInt.toNat ∧ sz σ ((σ.2.2.1) 9 n) = Sz σ ((σ.2.2.1) 9 n).toInt.toNat := fun z => ⟨part_po X hn N0.pa (N0.ha z) hd hv2, sz_of (N0.ha z)⟩
    have pB : ((σ.2.2.1) 5 n).toInt = 4 ∨ ((σ.2.2.1) 5 n).toInt = 5 ∨ ((σ.2.2.1) 5 n).toInt = 6 ∨ ((σ.2.2.1) 5 n).toInt = 8 ∨ ((σ.2.2.1) 5 n).toInt = 9 ∨ ((σ.2.2.1) 5 n).toInt = 10 → PO σ N lv d ((σ.2.2.1) 10 n) ((σ.2.2.1) 10 n).toInt.toNat ∧ sz σ ((σ.2.2.1) 10 n) = Sz σ ((σ.2.2.1) 10 n).toInt.toNat := fun z => ⟨part_po X hn N0.pb (N0.hb z) hd hv2, sz_of (N0.hb z)⟩
    have pC : ((σ.2.2.1) 5 n).toInt = 6 → PO σ N lv d ((σ.2.2.1) 11 n) ((σ.2.2.1) 11 n).toInt.toNat ∧ sz σ ((σ.2.2.1) 11 n) = Sz σ ((σ.2.2.1) 11 n).toInt.toNat := fun z => ⟨part_po X hn N0.pc (N0.hc z) hd hv2, sz_of (N0.hc z)⟩
    have z0 : ∀ q : Int32, Pt σ n q → 0 ≤ sz σ q := fun q hq => by
      unfold sz
      split
      · exact Int.le_refl _
      · rcases hq with e | ⟨e1, e2, e3⟩
        · contradiction
        · have := (X.nok.nd q.toInt.toNat (by omega)).s1
          omega
    have za := z0 _ N0.pa
    have zb := z0 _ N0.pb
    have zc := z0 _ N0.pc
    have q4 : cI M a 4 = (σ.2.2.1) 9 n := ha.2 4 (by decide)
    by_cases c3 : ((σ.2.2.1) 5 n).toInt = 3
    · simp only [if_pos (kd3.mpr c3)]
      obtain ⟨s, v, k1, w1, e1⟩ := co_add h (x1 := 2) (x2 := cI M a 1) (by omega)
      exact ⟨⟨b1, b2, sat, b3, b3, b1, s, trivial⟩, l + 1, k1, w1, e1, by omega, by omega⟩
    simp only [if_neg (fun z => c3 (kd3.mp z))]
    by_cases c4 : ((σ.2.2.1) 5 n).toInt = 4
    · simp only [if_pos (kd4.mpr c4), q4]
      obtain ⟨A9, e9⟩ := pA (by omega)
      obtain ⟨A10, e10⟩ := pB (by omega)
      have nz := csz_nn X.nok hn (by omega)
      rw [e9, e10, nz] at s2
      have v9 := A9.v
      have d9 := A9.d1
      have t9 := A9.s1
      have t10 := A10.s1
      obtain ⟨sw, l1, k1, w1, e1, h1, h1'⟩ := ih M l k _ ((σ.2.2.1) 9 n) (lv + 1) A9.n A9.x A9.d (by ((try (simp only [vp_in, Int32.toNatClampNeg, Int32.lt_iff_toInt_lt, Int32.le_iff_toInt_le, ← Int32.toInt_inj, Int32.toInt_add, Int32.toInt_sub, Int32.toInt_mul, Int32.reduceToInt, i32_neg1, Nat.reducePow, Int.reducePow, ne_eq, ge_iff_le, gt_iff_lt] at *)) <;> (first | omega | ((simp (disch := omega) only [bm32] at *) <;> omega)))) (by ((try (simp only [vp_in, Int32.toNatClampNeg, Int32.lt_iff_toInt_lt, Int32.le_iff_toInt_le, ← Int32.toInt_inj, Int32.toInt_add, Int32.toInt_sub, Int32.toInt_mul, Int32.reduceToInt, i32_neg1, Nat.reducePow, Int.reducePow, ne_eq, ge_iff_le, gt_iff_lt] at *)) <;> (first | omega | ((simp (disch := omega) only [bm32] at *) <;> omega)))) (by omega) h
      generalize F_Co_write cs fu d M A.co ((σ.2.2.1) 9 n) (lv + 1) = r1 at w1 e1 ⊢
      have ha1 := ha.ext e1.ext (by decide)
      have q5 : cI r1 a 5 = (σ.2.2.1) 10 n := ha1.2 5 (by decide)
      rw [q5]
      obtain ⟨ss, l2, k2, w2, e2, h2, h2'⟩ := co_scope (fu := fu) (x1 := cI r1 a 2) ih A10.n A10.x A10.d hv A10.v A10.d1 A10.s1 (by omega) w1
      exact ⟨⟨b1, b2, sat, b3, b3, b1, sw, ⟨a, rfl, ha1.1⟩, ⟨a, rfl, ha1.1⟩, w1.lay.co_0.1, ss, trivial⟩, l2, k2, w2, e1.trans h.lay.mok e2, by omega, by omega⟩
    simp only [if_neg (fun z => c4 (kd4.mp z))]
    by_cases c5 : ((σ.2.2.1) 5 n).toInt = 5
    · simp only [if_pos (kd5.mpr c5)]
      obtain ⟨A9, e9⟩ := pA (by omega)
      obtain ⟨A10, e10⟩ := pB (by omega)
      have nz := csz_nn X.nok hn (by omega)
      rw [e9, e10, nz] at s2
      have t9 := A9.s1
      have t10 := A10.s1
      obtain ⟨sw, l1, k1, w1, e1, h1, h1'⟩ := co_function (fu := fu) ih ha A9.n A9.x A9.d hv A9.v A9.d1 A9.s1 (by omega) h
      generalize F_Co_writeFunction cs fu (F_Co_write cs fu d) M A.co (some a) lv = r1 at w1 e1 ⊢
      have ha1 := ha.ext e1.ext (by decide)
      have q5 : cI r1 a 5 = (σ.2.2.1) 10 n := ha1.2 5 (by decide)
      rw [q5]
      obtain ⟨ss, l2, k2, w2, e2, h2, h2'⟩ := co_scope (fu := fu) (x1 := cI r1 a 3) ih A10.n A10.x A10.d hv A10.v A10.d1 A10.s1 (by omega) w1
      exact ⟨⟨b1, b2, sat, b3, b1, sw, ⟨a, rfl, ha1.1⟩, ⟨a, rfl, ha1.1⟩, w1.lay.co_0.1, ss, trivial⟩, l2, k2, w2, e1.trans h.lay.mok e2, by omega, by omega⟩
    simp only [if_neg (fun z => c5 (kd5.mp z))]
    by_cases c6 : ((σ.2.2.1) 5 n).toInt = 6
    · simp only [if_pos (kd6.mpr c6)]
      obtain ⟨A9, e9⟩ := pA (by omega)
      obtain ⟨A10, e10⟩ := pB (by omega)
      obtain ⟨A11, e11⟩ := pC c6
      have nz := csz_nn X.nok hn (by omega)
      rw [e9, e10, e11, nz] at s2
      obtain ⟨sw, l1, k1, w1, e1, h1, h1'⟩ := co_choice (fu := fu) ih hv A9 A10 A11 ha h (by omega)
      exact ⟨⟨b1, b2, sat, b3, b1, sw, trivial⟩, l1, k1, w1, e1, by omega, by omega⟩
    simp only [if_neg (fun z => c6 (kd6.mp z))]
    by_cases c7 : ((σ.2.2.1) 5 n).toInt = 7
    · simp only [if_pos (kd7.mpr c7)]
      obtain ⟨A9, e9⟩ := pA (by omega)
      have nz := csz_nn X.nok hn (by omega)
      rw [e9, nz] at s2
      have t9 := A9.s1
      obtain ⟨sw, l1, k1, w1, e1, h1, h1'⟩ := co_function (fu := fu) ih ha A9.n A9.x A9.d hv A9.v A9.d1 A9.s1 (by omega) h
      exact ⟨⟨b1, b2, sat, b3, b1, sw, trivial⟩, l1, k1, w1, e1, by omega, by omega⟩
    simp only [if_neg (fun z => c7 (kd7.mp z))]
    by_cases c8 : ((σ.2.2.1) 5 n).toInt = 8
    · simp only [if_pos (kd8.mpr c8)]
      obtain ⟨A9, e9⟩ := pA (by omega)
      obtain ⟨A10, e10⟩ := pB (by omega)
      have t9 := A9.s1
      have t10 := A10.s1
      have cm := N0.cm.1
      have cf := N0.cf c8
      have hc40 := X.nok.hc
      rw [e9, e10] at s2
      have H : HC σ N C n lv d ((σ.2.2.1) 14 n).toInt.toNat ((σ.2.2.1) 15 n).toInt.toNat := by
        refine ⟨by omega, by omega, by omega, hc40, fun j hj => ?_⟩
        have ce := N0.ce c8 (((σ.2.2.1) 14 n).toInt.toNat + j) (by omega) (by omega)
        have N1 := X.nok.nd ((σ.2.2.1) 19 (((σ.2.2.1) 14 n).toInt.toNat + j)).toInt.toNat (by omega)
        have i1 := N1.dp
        have i2 := N1.s1
        exact ⟨ce.1, by omega, by omega, by omega, i1.1, i2.1⟩
      have cg := csz_ge (σ := σ) (f0 := ((σ.2.2.1) 14 n).toInt.toNat) (m := ((σ.2.2.1) 15 n).toInt.toNat) (k := 0) (Nat.zero_le _) (fun i hi => (H.b i hi).2.2.2.2.2)
      obtain ⟨sw, l1, k1, w1, e1, h1, h1'⟩ := co_handle ih H c8 hv A9 A10 hf ha h (by omega)
      exact ⟨⟨b1, b2, sat, b3, b1, sw, trivial⟩, l1, k1, w1, e1, by omega, by omega⟩
    simp only [if_neg (fun z => c8 (kd8.mp z))]
    by_cases c9 : ((σ.2.2.1) 5 n).toInt = 9
    · simp only [if_pos (kd9.mpr c9), q4]
      obtain ⟨A9, e9⟩ := pA (by omega)
      obtain ⟨A10, e10⟩ := pB (by omega)
      have nz := csz_nn X.nok hn (by omega)
      rw [e9, e10, nz] at s2
      have v9 := A9.v
      have d9 := A9.d1
      have v10 := A10.v
      have d10 := A10.d1
      have t9 := A9.s1
      have t10 := A10.s1
      obtain ⟨sw, l1, k1, w1, e1, h1, h1'⟩ := ih M l k _ ((σ.2.2.1) 9 n) (lv + 1) A9.n A9.x A9.d (by ((try (simp only [vp_in, Int32.toNatClampNeg, Int32.lt_iff_toInt_lt, Int32.le_iff_toInt_le, ← Int32.toInt_inj, Int32.toInt_add, Int32.toInt_sub, Int32.toInt_mul, Int32.reduceToInt, i32_neg1, Nat.reducePow, Int.reducePow, ne_eq, ge_iff_le, gt_iff_lt] at *)) <;> (first | omega | ((simp (disch := omega) only [bm32] at *) <;> omega)))) (by ((try (simp only [vp_in, Int32.toNatClampNeg, Int32.lt_iff_toInt_lt, Int32.le_iff_toInt_le, ← Int32.toInt_inj, Int32.toInt_add, Int32.toInt_sub, Int32.toInt_mul, Int32.reduceToInt, i32_neg1, Nat.reducePow, Int.reducePow, ne_eq, ge_iff_le, gt_iff_lt] at *)) <;> (first | omega | ((simp (disch := omega) only [bm32] at *) <;> omega)))) (by omega) h
      generalize F_Co_write cs fu d M A.co ((σ.2.2.1) 9 n) (lv + 1) = r1 at w1 e1 ⊢
      have ha1 := ha.ext e1.ext (by decide)
      have q5 : cI r1 a 5 = (σ.2.2.1) 10 n := ha1.2 5 (by decide)
      rw [q5]
      obtain ⟨sw2, l2, k2, w2, e2, h2, h2'⟩ := ih r1 l1 k1 _ ((σ.2.2.1) 10 n) (lv + 1) A10.n A10.x A10.d (by ((try (simp only [vp_in, Int32.toNatClampNeg, Int32.lt_iff_toInt_lt, Int32.le_iff_toInt_le, ← Int32.toInt_inj, Int32.toInt_add, Int32.toInt_sub, Int32.toInt_mul, Int32.reduceToInt, i32_neg1, Nat.reducePow, Int.reducePow, ne_eq, ge_iff_le, gt_iff_lt] at *)) <;> (first | omega | ((simp (disch := omega) only [bm32] at *) <;> omega)))) (by ((try (simp only [vp_in, Int32.toNatClampNeg, Int32.lt_iff_toInt_lt, Int32.le_iff_toInt_le, ← Int32.toInt_inj, Int32.toInt_add, Int32.toInt_sub, Int32.toInt_mul, Int32.reduceToInt, i32_neg1, Nat.reducePow, Int.reducePow, ne_eq, ge_iff_le, gt_iff_lt] at *)) <;> (first | omega | ((simp (disch := omega) only [bm32] at *) <;> omega)))) (by omega) w1
      generalize F_Co_write cs fu d r1 A.co ((σ.2.2.1) 10 n) (lv + 1) = r2 at w2 e2 ⊢
      have ha2 := ha1.ext e2.ext (by decide)
      obtain ⟨s3, v3, k3, w3, e3⟩ := co_add w2 (x1 := 7) (x2 := cI r2 a 1) (by omega)
      exact ⟨⟨b1, b2, sat, b3, b3, b1, sw, ⟨a, rfl, ha1.1⟩, w1.lay.co_0.1, sw2, ⟨a, rfl, ha2.1⟩, w2.lay.co_0.1, s3, trivial⟩, l2 + 1, k3, w3, (e1.trans h.lay.mok e2).trans h.lay.mok e3, by omega, by omega⟩
    simp only [if_neg (fun z => c9 (kd9.mp z))]
    by_cases c10 : ((σ.2.2.1) 5 n).toInt = 10
    · simp only [if_pos (kd10.mpr c10), q4]
      obtain ⟨A9, e9⟩ := pA (by omega)
      obtain ⟨A10, e10⟩ := pB (by omega)
      have nz := csz_nn X.nok hn (by omega)
      rw [e9, e10, nz] at s2
      have v9 := A9.v
      have d9 := A9.d1
      have v10 := A10.v
      have d10 := A10.d1
      have t9 := A9.s1
      have t10 := A10.s1
      obtain ⟨sw, l1, k1, w1, e1, h1, h1'⟩ := ih M l k _ ((σ.2.2.1) 9 n) (lv + 1) A9.n A9.x A9.d (by ((try (simp only [vp_in, Int32.toNatClampNeg, Int32.lt_iff_toInt_lt, Int32.le_iff_toInt_le, ← Int32.toInt_inj, Int32.toInt_add, Int32.toInt_sub, Int32.toInt_mul, Int32.reduceToInt, i32_neg1, Nat.reducePow, Int.reducePow, ne_eq, ge_iff_le, gt_iff_lt] at *)) <;> (first | omega | ((simp (disch := omega) only [bm32] at *) <;> omega)))) (by ((try (simp only [vp_in, Int32.toNatClampNeg, Int32.lt_iff_toInt_lt, Int32.le_iff_toInt_le, ← Int32.toInt_inj, Int32.toInt_add, Int32.toInt_sub, Int32.toInt_mul, Int32.reduceToInt, i32_neg1, Nat.reducePow, Int.reducePow, ne_eq, ge_iff_le, gt_iff_lt] at *)) <;> (first | omega | ((simp (disch := omega) only [bm32] at *) <;> omega)))) (by omega) h
      generalize F_Co_write cs fu d M A.co ((σ.2.2.1) 9 n) (lv + 1) = r1 at w1 e1 ⊢
      have ha1 := ha.ext e1.ext (by decide)
      have q5 : cI r1 a 5 = (σ.2.2.1) 10 n := ha1.2 5 (by decide)
      rw [q5]
      obtain ⟨sw2, l2, k2, w2, e2, h2, h2'⟩ := ih r1 l1 k1 _ ((σ.2.2.1) 10 n) (lv + 1) A10.n A10.x A10.d (by ((try (simp only [vp_in, Int32.toNatClampNeg, Int32.lt_iff_toInt_lt, Int32.le_iff_toInt_le, ← Int32.toInt_inj, Int32.toInt_add, Int32.toInt_sub, Int32.toInt_mul, Int32.reduceToInt, i32_neg1, Nat.reducePow, Int.reducePow, ne_eq, ge_iff_le, gt_iff_lt] at *)) <;> (first | omega | ((simp (disch := omega) only [bm32] at *) <;> omega)))) (by ((try (simp only [vp_in, Int32.toNatClampNeg, Int32.lt_iff_toInt_lt, Int32.le_iff_toInt_le, ← Int32.toInt_inj, Int32.toInt_add, Int32.toInt_sub, Int32.toInt_mul, Int32.reduceToInt, i32_neg1, Nat.reducePow, Int.reducePow, ne_eq, ge_iff_le, gt_iff_lt] at *)) <;> (first | omega | ((simp (disch := omega) only [bm32] at *) <;> omega)))) (by omega) w1
      generalize F_Co_write cs fu d r1 A.co ((σ.2.2.1) 10 n) (lv + 1) = r2 at w2 e2 ⊢
      obtain ⟨s3, v3, k3, w3, e3⟩ := co_add w2 (x1 := 12) (x2 := 0) (by omega)
      exact ⟨⟨b1, b2, sat, b3, b3, b1, sw, ⟨a, rfl, ha1.1⟩, w1.lay.co_0.1, sw2, w2.lay.co_0.1, s3, trivial⟩, l2 + 1, k3, w3, (e1.trans h.lay.mok e2).trans h.lay.mok e3, by omega, by omega⟩
    simp only [if_neg (fun z => c10 (kd10.mp z))]
    by_cases c11 : ((σ.2.2.1) 5 n).toInt = 11
    · simp only [if_pos (kd11.mpr c11), q4]
      obtain ⟨A9, e9⟩ := pA (by omega)
      have nz := csz_nn X.nok hn (by omega)
      rw [e9, nz] at s2
      have v9 := A9.v
      have d9 := A9.d1
      have t9 := A9.s1
      obtain ⟨sw, l1, k1, w1, e1, h1, h1'⟩ := ih M l k _ ((σ.2.2.1) 9 n) (lv + 1) A9.n A9.x A9.d (by ((try (simp only [vp_in, Int32.toNatClampNeg, Int32.lt_iff_toInt_lt, Int32.le_iff_toInt_le, ← Int32.toInt_inj, Int32.toInt_add, Int32.toInt_sub, Int32.toInt_mul, Int32.reduceToInt, i32_neg1, Nat.reducePow, Int.reducePow, ne_eq, ge_iff_le, gt_iff_lt] at *)) <;> (first | omega | ((simp (disch := omega) only [bm32] at *) <;> omega)))) (by ((try (simp only [vp_in, Int32.toNatClampNeg, Int32.lt_iff_toInt_lt, Int32.le_iff_toInt_le, ← Int32.toInt_inj, Int32.toInt_add, Int32.toInt_sub, Int32.toInt_mul, Int32.reduceToInt, i32_neg1, Nat.reducePow, Int.reducePow, ne_eq, ge_iff_le, gt_iff_lt] at *)) <;> (first | omega | ((simp (disch := omega) only [bm32] at *) <;> omega)))) (by omega) h
      generalize F_Co_write cs fu d M A.co ((σ.2.2.1) 9 n) (lv + 1) = r1 at w1 e1 ⊢
      have ha1 := ha.ext e1.ext (by decide)
      obtain ⟨s3, v3, k3, w3, e3⟩ := co_add w1 (x1 := 13) (x2 := cI r1 a 1) (by omega)
      exact ⟨⟨b1, b2, sat, b3, b3, b1, sw, ⟨a, rfl, ha1.1⟩, w1.lay.co_0.1, s3, trivial⟩, l1 + 1, k3, w3, e1.trans h.lay.mok e3, by omega, by omega⟩
    simp only [if_neg (fun z => c11 (kd11.mp z))]
    obtain ⟨s, v, k1, w1, e1⟩ := co_add h (x1 := 1) (x2 := cI M a 1) (by omega)
    exact ⟨⟨b1, b2, sat, b3, b3, b1, s, trivial⟩, l + 1, k1, w1, e1, by omega, by omega⟩
theorem co_compile (X : Ctx σ N C R T) (hf : 200 ≤ fu) (h : Wk cs lim A σ M N C F l k) {x : Int32} {m : Nat} (hm : m < N) (hx : x.toInt = m) (hd : Dp σ m ≤ 40) (hs : Sz σ m ≤ 400) : S_Co_compile cs lim fu M A.co x ∧ ∃ l' k', Wk cs lim A σ (F_Co_compile cs fu M A.co x) N C F l' k' ∧ We cs A M (F_Co_compile cs fu M A.co x) k k' := by
  unfold S_Co_compile F_Co_compile
  simp only [mbind_eq]
  have o := h.lay.co_0.1
  have e0 : Ext [(7, 2), (2, 0)] [(2, 0)] true M (cP 7 M A.co 2 (.int 0)) := (Ext.rf h.lay.mok).putI 2 o (by decide) (by decide)
  have e0' : Ext [(7, 2)] [] false M (cP 7 M A.co 2 (.int 0)) := (Ext.rf h.lay.mok).putI 2 o (by decide) (by decide)
  obtain ⟨g, hg⟩ := h.c4
  have w0 : Wk cs lim A σ (cP 7 M A.co 2 (.int 0)) N C F 0 k := ⟨h.lay.ext e0 (by decide), h.ns.ext h.lay e0 (by decide) (by decide) (by decide), ⟨g, hg.ext e0' (by decide) (by decide)⟩, by rw [cI_put o (by decide)]; rfl, h.kb, h.rm⟩
  have we0 : We cs A M (cP 7 M A.co 2 (.int 0)) k k := ⟨e0, fun c g j _ hg => hg.ext e0' (by decide) (by decide), Pot.light rfl⟩
  generalize cP 7 M A.co 2 (.int 0) = M0 at w0 we0 ⊢
  obtain ⟨s1, l1, k1, w1, e1, h1, h1'⟩ := co_write (cs := cs) (lim := lim) (A := A) (F := F) X hf 42 M0 0 k m x 1 hm hx (by omega) (by decide) (by show (1 : Int) + _ ≤ _; omega) (by omega) w0
  generalize F_Co_write cs fu 42 M0 A.co x 1 = M1 at w1 e1 ⊢
  obtain ⟨s2, v2, k2, w2, e2⟩ := co_add w1 (x1 := 0) (x2 := 0) (by omega)
  exact ⟨⟨o, w0.lay.co_0.1, s1, w1.lay.co_0.1, s2, trivial⟩, l1 + 1, k2, w2, (we0.trans h.lay.mok e1).trans h.lay.mok e2⟩
end
end
section
/-! pure rows: a step that changes nothing of the class's cells -/
def SameC (M M' : gMem) : Prop := (∀ a e, M'.1 a = some (1, e) ↔ M.1 a = some (1, e)) ∧ (M'.2 = M.2) ∧ (MOk M')
theorem SameC.c {M M' : gMem} (self : SameC M M') : ∀ a e, M'.1 a = some (1, e) ↔ M.1 a = some (1, e) := self.1
theorem SameC.s {M M' : gMem} (self : SameC M M') : M'.2 = M.2 := self.2.1
theorem SameC.ok {M M' : gMem} (self : SameC M M') : MOk M' := self.2.2
section
variable {cs : Nat → ClassId} {A : Ad} {M M' : gMem} {ci a k b : Nat} {cA : ClassId} {τ : TT} {K : Nat}
theorem SameC.xcOk (h : SameC M M') : cOk ci M' a ↔ cOk ci M a := by
  constructor
  · rintro ⟨fs, h1, h2⟩; exact ⟨fs, (h.c _ _).mp h1, h2⟩
  · rintro ⟨fs, h1, h2⟩; exact ⟨fs, (h.c _ _).mpr h1, h2⟩
theorem SameC.xaIk (h : SameC M M') : aIk cA M' a ↔ aIk cA M a := by
  constructor
  · rintro ⟨n, f, h1⟩; exact ⟨n, f, (h.c _ _).mp h1⟩
  · rintro ⟨n, f, h1⟩; exact ⟨n, f, (h.c _ _).mpr h1⟩
theorem SameC.xaQk (h : SameC M M') : aQk cA M' a ↔ aQk cA M a := by
  constructor
  · rintro ⟨n, f, h1⟩; exact ⟨n, f, (h.c _ _).mp h1⟩
  · rintro ⟨n, f, h1⟩; exact ⟨n, f, (h.c _ _).mpr h1⟩
theorem SameC.at (h : SameC M M') {e : va_E} (ha : M.1 a = some (1, e)) : M'.1 a = M.1 a := by rw [ha]; exact (h.c a e).mpr ha
theorem SameC.atO (h : SameC M M') (ho : cOk ci M a) : M'.1 a = M.1 a := by obtain ⟨fs, h1, -⟩ := ho; exact h.at h1
theorem SameC.xcI (h : SameC M M') (ho : cOk ci M a) : cI M' a k = cI M a k := cI_cong (h.atO ho)
theorem SameC.xcQ (h : SameC M M') (ho : cOk ci M a) : cQ M' a k = cQ M a k := cQ_cong (h.atO ho)
theorem SameC.xOnly {L : List (Nat × Nat)} (h : SameC M M') (o : Only L M b) : Only L M' b := fun a ci k hk ho hq => by
  have ho' := h.xcOk.mp ho
  rw [h.xcQ ho'] at hq
  exact o a ci k hk ho' hq
theorem SameC.xSole (h : SameC M M') (o : Sole M ci k a b) : Sole M' ci k a b := fun a' ci' k' hk ho hq => by
  have ho' := h.xcOk.mp ho
  rw [h.xcQ ho'] at hq
  exact o a' ci' k' hk ho' hq
theorem SameC.xCeIs {g : Nat → Int32} {cap : Nat} (h : SameC M M') (c : CeIs cs M a g cap) : CeIs cs M' a g cap := by
  obtain ⟨b, h1, h2, h3, h4, h5, h6⟩ := c.ref
  refine ⟨h.xcOk.mpr c.ok, ⟨b, by rw [h.xcQ c.ok]; exact h1, h.xaIk.mpr h2, by rw [aL_cong (h.at h2.eq)]; exact h3, h.xSole h4, by rw [h.s]; exact h5, fun i hi => by rw [aF_cong (h.at h2.eq)]; exact h6 i hi⟩, c.zero, c.lo, c.hi⟩
theorem SameC.xLay (h : SameC M M') (L : Lay cs A M) : Lay cs A M' := by
  refine ⟨h.ok, fun q hq => ?_, fun q hq => h.xcOk.mpr (L.objs q hq), fun q hq => ?_, fun q hq => ?_, fun q hq => h.xOnly (L.only q hq), fun a b ci k hk ho hq => ?_, L.dif⟩
  · obtain ⟨h1, h2⟩ := L.refs q hq
    exact ⟨h.xcOk.mpr h1, by rw [h.xcQ h1]; exact h2⟩
  · obtain ⟨h1, h2⟩ := L.ari q hq
    exact ⟨h.xaIk.mpr h1, by rw [aL_cong (h.at h1.eq)]; exact h2⟩
  · obtain ⟨h1, h2⟩ := L.arq q hq
    exact ⟨h.xaQk.mpr h1, by rw [aL_cong (h.at h1.eq)]; exact h2⟩
  · have ho' := h.xcOk.mp ho
    rw [h.xcQ ho'] at hq
    rw [h.s]
    exact L.bnd a b ci k hk ho' hq
theorem SameC.xTyA (h : SameC M M') (L : Lay cs A M) (t : TyA cs A M τ K) : TyA cs A M' τ K := by
  obtain ⟨g0, g1, g2, g3, k0, k1, k2, k3, c, r⟩ := t.ex
  exact ⟨by rw [h.xcI L.ty_0.1]; exact t.cnt, g0, g1, g2, g3, k0, k1, k2, k3, ⟨h.xCeIs c.c0, h.xCeIs c.c1, h.xCeIs c.c2, h.xCeIs c.c3, c.g, c.len, c.wt⟩, r⟩
theorem SameC.xEfIs {tv gv : Nat → Int32} (h : SameC M M') (L : Lay cs A M) (e : EfIs A M tv gv) : EfIs A M' tv gv := fun i hi => by
  rw [aF_cong (h.at L.gv.1.eq), aF_cong (h.at L.rs.1.eq)]
  exact e i hi
theorem SameC.xNodeAt {v : Nat → Int32} (h : SameC M M') (n : NodeAt M a v) : NodeAt M' a v := ⟨h.xcOk.mpr n.1, fun k hk => by rw [h.xcI n.1]; exact n.2 k hk⟩
theorem SameC.xClauseAt {v : Nat → Int32} (h : SameC M M') (n : ClauseAt M a v) : ClauseAt M' a v := ⟨h.xcOk.mpr n.1, fun k hk => by rw [h.xcI n.1]; exact n.2 k hk⟩
theorem SameC.xNsIs {N C F : Nat} {nd cd : Nat → Nat → Int32} (h : SameC M M') (L : Lay cs A M) (n : NsIs A M N C F nd cd) : NsIs A M' N C F nd cd := by
  have o3 := L.ns_0.1
  refine ⟨by rw [h.xcI o3]; exact n.n, n.hn, by rw [h.xcI o3]; exact n.c, n.hc, by rw [h.xcI o3]; exact n.f, n.hf, fun i hi => ?_, fun j hj => ?_⟩
  · obtain ⟨a, q1, q2⟩ := n.nds i hi
    exact ⟨a, by rw [aQ_cong (h.at L.nn.1.eq)]; exact q1, h.xNodeAt q2⟩
  · obtain ⟨a, q1, q2⟩ := n.cls j hj
    exact ⟨a, by rw [aQ_cong (h.at L.cl.1.eq)]; exact q1, h.xClauseAt q2⟩
end
end
section
/-! pure rows, the class: how frames and things lie -/
/-- how a list grows -/
def gr : Nat → Nat
  | 0 => 10
  | n + 1 => gr n + gr n / 2
def gs : Nat → Nat
  | 0 => 0
  | n + 1 => gs n + gr n
def FrOk (cs : Nat → ClassId) (Fs Ts : Nat → Prop) (M : gMem) (a : Nat) : Prop := (cOk 10 M a) ∧ (∃ b, cQ M a 0 = some b ∧ aIk (cs 0) M b ∧ aL M b = 50) ∧ (10 ≤ (cI M a 1).toInt ∧ (cI M a 1).toInt ≤ 50) ∧ (∀ h, cQ M a 3 = some h → Ts h) ∧ (∀ f, cQ M a 4 = some f → Fs f)
theorem FrOk.ok {cs : Nat → ClassId} {Fs Ts : Nat → Prop} {M : gMem} {a : Nat} (self : FrOk cs Fs Ts M a) : cOk 10 M a := self.1
theorem FrOk.sl {cs : Nat → ClassId} {Fs Ts : Nat → Prop} {M : gMem} {a : Nat} (self : FrOk cs Fs Ts M a) : ∃ b, cQ M a 0 = some b ∧ aIk (cs 0) M b ∧ aL M b = 50 := self.2.1
theorem FrOk.ht {cs : Nat → ClassId} {Fs Ts : Nat → Prop} {M : gMem} {a : Nat} (self : FrOk cs Fs Ts M a) : 10 ≤ (cI M a 1).toInt ∧ (cI M a 1).toInt ≤ 50 := self.2.2.1
theorem FrOk.ha {cs : Nat → ClassId} {Fs Ts : Nat → Prop} {M : gMem} {a : Nat} (self : FrOk cs Fs Ts M a) : ∀ h, cQ M a 3 = some h → Ts h := self.2.2.2.1
theorem FrOk.be {cs : Nat → ClassId} {Fs Ts : Nat → Prop} {M : gMem} {a : Nat} (self : FrOk cs Fs Ts M a) : ∀ f, cQ M a 4 = some f → Fs f := self.2.2.2.2
def ThOk (cs : Nat → ClassId) (Fs : Nat → Prop) (M : gMem) (a : Nat) : Prop := (cOk 11 M a) ∧ (∃ b, cQ M a 0 = some b ∧ aIk (cs 0) M b ∧ aL M b = 10) ∧ (∀ f, cQ M a 4 = some f → Fs f) ∧ (∀ f, cQ M a 5 = some f → Fs f)
theorem ThOk.ok {cs : Nat → ClassId} {Fs : Nat → Prop} {M : gMem} {a : Nat} (self : ThOk cs Fs M a) : cOk 11 M a := self.1
theorem ThOk.nm {cs : Nat → ClassId} {Fs : Nat → Prop} {M : gMem} {a : Nat} (self : ThOk cs Fs M a) : ∃ b, cQ M a 0 = some b ∧ aIk (cs 0) M b ∧ aL M b = 10 := self.2.1
theorem ThOk.up {cs : Nat → ClassId} {Fs : Nat → Prop} {M : gMem} {a : Nat} (self : ThOk cs Fs M a) : ∀ f, cQ M a 4 = some f → Fs f := self.2.2.1
theorem ThOk.lo {cs : Nat → ClassId} {Fs : Nat → Prop} {M : gMem} {a : Nat} (self : ThOk cs Fs M a) : ∀ f, cQ M a 5 = some f → Fs f := self.2.2.2
/-- the array of a list: its elements are of P -/
def ArI (cs : Nat → ClassId) (M : gMem) (a b : Nat) (P : Nat → Prop) (sz cap : Nat) : Prop := (aQk (cs 5) M b) ∧ (aL M b = cap) ∧ (sz ≤ cap) ∧ (Sole M 13 0 a b) ∧ (b < M.2.1) ∧ (∀ i, i < sz → ∃ y, aQ M b i = some y ∧ P y) ∧ (∀ i, sz ≤ i → aQ M b i = none)
theorem ArI.ok {cs : Nat → ClassId} {M : gMem} {a b : Nat} {P : Nat → Prop} {sz cap : Nat} (self : ArI cs M a b P sz cap) : aQk (cs 5) M b := self.1
theorem ArI.len {cs : Nat → ClassId} {M : gMem} {a b : Nat} {P : Nat → Prop} {sz cap : Nat} (self : ArI cs M a b P sz cap) : aL M b = cap := self.2.1
theorem ArI.le {cs : Nat → ClassId} {M : gMem} {a b : Nat} {P : Nat → Prop} {sz cap : Nat} (self : ArI cs M a b P sz cap) : sz ≤ cap := self.2.2.1
theorem ArI.sole {cs : Nat → ClassId} {M : gMem} {a b : Nat} {P : Nat → Prop} {sz cap : Nat} (self : ArI cs M a b P sz cap) : Sole M 13 0 a b := self.2.2.2.1
theorem ArI.lt {cs : Nat → ClassId} {M : gMem} {a b : Nat} {P : Nat → Prop} {sz cap : Nat} (self : ArI cs M a b P sz cap) : b < M.2.1 := self.2.2.2.2.1
theorem ArI.el {cs : Nat → ClassId} {M : gMem} {a b : Nat} {P : Nat → Prop} {sz cap : Nat} (self : ArI cs M a b P sz cap) : ∀ i, i < sz → ∃ y, aQ M b i = some y ∧ P y := self.2.2.2.2.2.1
theorem ArI.no {cs : Nat → ClassId} {M : gMem} {a b : Nat} {P : Nat → Prop} {sz cap : Nat} (self : ArI cs M a b P sz cap) : ∀ i, sz ≤ i → aQ M b i = none := self.2.2.2.2.2.2
def LiI (cs : Nat → ClassId) (dE : Nat × Nat) (M : gMem) (a : Nat) (P : Nat → Prop) (sz n : Nat) : Prop := (cOk 13 M a) ∧ ((cI M a 1).toInt = sz) ∧ ((n = 0 ∧ sz = 0 ∧ cQ M a 0 = some dE.1) ∨ ∃ n' b, n = n' + 1 ∧ cQ M a 0 = some b ∧ ArI cs M a b P sz (gr n'))
theorem LiI.ok {cs : Nat → ClassId} {dE : Nat × Nat} {M : gMem} {a : Nat} {P : Nat → Prop} {sz n : Nat} (self : LiI cs dE M a P sz n) : cOk 13 M a := self.1
theorem LiI.siz {cs : Nat → ClassId} {dE : Nat × Nat} {M : gMem} {a : Nat} {P : Nat → Prop} {sz n : Nat} (self : LiI cs dE M a P sz n) : (cI M a 1).toInt = sz := self.2.1
theorem LiI.ref {cs : Nat → ClassId} {dE : Nat × Nat} {M : gMem} {a : Nat} {P : Nat → Prop} {sz n : Nat} (self : LiI cs dE M a P sz n) : (n = 0 ∧ sz = 0 ∧ cQ M a 0 = some dE.1) ∨ ∃ n' b, n = n' + 1 ∧ cQ M a 0 = some b ∧ ArI cs M a b P sz (gr n') := self.2.2
def HTL (cs : Nat → ClassId) (dE : Nat × Nat) (A : Ad) (Fs Ts : Nat → Prop) (nf nt kf kt : Nat) (g4 : Nat → Int32) (k4 : Nat) (M : gMem) : Prop := (Lay cs A M) ∧ (CeIs cs M A.c4 g4 k4) ∧ (∀ a, Fs a → FrOk cs Fs Ts M a) ∧ (∀ a, Ts a → ThOk cs Fs M a) ∧ (LiI cs dE M A.fl Fs nf kf) ∧ (LiI cs dE M A.tl Ts nt kt) ∧ (∀ f, cQ M A.ma 10 = some f → Fs f) ∧ (∀ f, cQ M A.st 4 = some f → Fs f) ∧ (0 ≤ (cI M A.st 2).toInt ∧ (cI M A.st 2).toInt ≤ nf) ∧ (0 ≤ (cI M A.st 3).toInt ∧ (cI M A.st 3).toInt ≤ nt) ∧ (dE.1 < M.2.1 ∧ M.1 dE.1 = none)
theorem HTL.lay {cs : Nat → ClassId} {dE : Nat × Nat} {A : Ad} {Fs Ts : Nat → Prop} {nf nt kf kt : Nat} {g4 : Nat → Int32} {k4 : Nat} {M : gMem} (self : HTL cs dE A Fs Ts nf nt kf kt g4 k4 M) : Lay cs A M := self.1
theorem HTL.c4 {cs : Nat → ClassId} {dE : Nat × Nat} {A : Ad} {Fs Ts : Nat → Prop} {nf nt kf kt : Nat} {g4 : Nat → Int32} {k4 : Nat} {M : gMem} (self : HTL cs dE A Fs Ts nf nt kf kt g4 k4 M) : CeIs cs M A.c4 g4 k4 := self.2.1
theorem HTL.fr {cs : Nat → ClassId} {dE : Nat × Nat} {A : Ad} {Fs Ts : Nat → Prop} {nf nt kf kt : Nat} {g4 : Nat → Int32} {k4 : Nat} {M : gMem} (self : HTL cs dE A Fs Ts nf nt kf kt g4 k4 M) : ∀ a, Fs a → FrOk cs Fs Ts M a := self.2.2.1
theorem HTL.th {cs : Nat → ClassId} {dE : Nat × Nat} {A : Ad} {Fs Ts : Nat → Prop} {nf nt kf kt : Nat} {g4 : Nat → Int32} {k4 : Nat} {M : gMem} (self : HTL cs dE A Fs Ts nf nt kf kt g4 k4 M) : ∀ a, Ts a → ThOk cs Fs M a := self.2.2.2.1
theorem HTL.fl {cs : Nat → ClassId} {dE : Nat × Nat} {A : Ad} {Fs Ts : Nat → Prop} {nf nt kf kt : Nat} {g4 : Nat → Int32} {k4 : Nat} {M : gMem} (self : HTL cs dE A Fs Ts nf nt kf kt g4 k4 M) : LiI cs dE M A.fl Fs nf kf := self.2.2.2.2.1
theorem HTL.tl {cs : Nat → ClassId} {dE : Nat × Nat} {A : Ad} {Fs Ts : Nat → Prop} {nf nt kf kt : Nat} {g4 : Nat → Int32} {k4 : Nat} {M : gMem} (self : HTL cs dE A Fs Ts nf nt kf kt g4 k4 M) : LiI cs dE M A.tl Ts nt kt := self.2.2.2.2.2.1
theorem HTL.top {cs : Nat → ClassId} {dE : Nat × Nat} {A : Ad} {Fs Ts : Nat → Prop} {nf nt kf kt : Nat} {g4 : Nat → Int32} {k4 : Nat} {M : gMem} (self : HTL cs dE A Fs Ts nf nt kf kt g4 k4 M) : ∀ f, cQ M A.ma 10 = some f → Fs f := self.2.2.2.2.2.2.1
theorem HTL.free {cs : Nat → ClassId} {dE : Nat × Nat} {A : Ad} {Fs Ts : Nat → Prop} {nf nt kf kt : Nat} {g4 : Nat → Int32} {k4 : Nat} {M : gMem} (self : HTL cs dE A Fs Ts nf nt kf kt g4 k4 M) : ∀ f, cQ M A.st 4 = some f → Fs f := self.2.2.2.2.2.2.2.1
theorem HTL.fu {cs : Nat → ClassId} {dE : Nat × Nat} {A : Ad} {Fs Ts : Nat → Prop} {nf nt kf kt : Nat} {g4 : Nat → Int32} {k4 : Nat} {M : gMem} (self : HTL cs dE A Fs Ts nf nt kf kt g4 k4 M) : 0 ≤ (cI M A.st 2).toInt ∧ (cI M A.st 2).toInt ≤ nf := self.2.2.2.2.2.2.2.2.1
theorem HTL.tu {cs : Nat → ClassId} {dE : Nat × Nat} {A : Ad} {Fs Ts : Nat → Prop} {nf nt kf kt : Nat} {g4 : Nat → Int32} {k4 : Nat} {M : gMem} (self : HTL cs dE A Fs Ts nf nt kf kt g4 k4 M) : 0 ≤ (cI M A.st 3).toInt ∧ (cI M A.st 3).toInt ≤ nt := self.2.2.2.2.2.2.2.2.2.1
theorem HTL.de {cs : Nat → ClassId} {dE : Nat × Nat} {A : Ad} {Fs Ts : Nat → Prop} {nf nt kf kt : Nat} {g4 : Nat → Int32} {k4 : Nat} {M : gMem} (self : HTL cs dE A Fs Ts nf nt kf kt g4 k4 M) : dE.1 < M.2.1 ∧ M.1 dE.1 = none := self.2.2.2.2.2.2.2.2.2.2
section
variable {cs : Nat → ClassId} {dE : Nat × Nat} {A : Ad} {Fs Ts P : Nat → Prop} {nf nt kf kt : Nat} {g4 : Nat → Int32} {k4 : Nat} {M M' : gMem} {a b sz n cap : Nat}
theorem ArI.ext {W V : List (Nat × Nat)} {al : Bool} (h : ArI cs M a b P sz cap) (e : Ext W V al M M') (hV : V.contains (13, 0) = false) : ArI cs M' a b P sz cap := by
  have q := e.xaQ h.ok (h.sole.notV hV)
  exact ⟨(e.aR h.ok).1, (e.aR h.ok).2.trans h.len, h.le, h.sole.ext e h.lt, Nat.lt_of_lt_of_le h.lt e.sz.1, fun i hi => by rw [q]; exact h.el i hi, fun i hi => by rw [q]; exact h.no i hi⟩
theorem LiI.ext {W V : List (Nat × Nat)} {al : Bool} (h : LiI cs dE M a P sz n) (e : Ext W V al M M') (h0 : W.contains (13, 0) = false) (h1 : W.contains (13, 1) = false) (hV : V.contains (13, 0) = false) : LiI cs dE M' a P sz n := by
  refine ⟨e.xcOk h.ok, by rw [e.xcI h.ok (by simpa [si_1, si_2, sl_1, sl_2, sl_3, ai_1, ai_2, ai_3, ai_4, al_1, al_2, al_3, al_4] using h1)]; exact h.siz, ?_⟩
  rw [e.xcQ h.ok (by simpa [si_1, si_2, sl_1, sl_2, sl_3, ai_1, ai_2, ai_3, ai_4, al_1, al_2, al_3, al_4] using h0)]
  rcases h.ref with g | ⟨n', b, g1, g2, g3⟩
  · exact Or.inl g
  · exact Or.inr ⟨n', b, g1, g2, g3.ext e hV⟩
/-- what frames, things, lists and the store hold of each other -/
def BAD : List (Nat × Nat) := FIN ++ [(8, 10), (9, 2), (9, 3), (9, 4), (10, 1), (10, 3), (10, 4), (11, 4), (11, 5), (13, 0), (13, 1)]
def BFT : List (Nat × Nat) := [(10, 0), (10, 1), (10, 3), (10, 4), (11, 0), (11, 4), (11, 5)]
theorem bft_bad {W : List (Nat × Nat)} (hW : W.all (fun w => !BAD.contains w) = true) : W.all (fun w => !BFT.contains w) = true := List.all_eq_true.mpr fun w hw => by
  have := List.all_eq_true.mp hW w hw
  cases hc : BFT.contains w with
  | false => rfl
  | true =>
    have d : ∀ w ∈ BFT, BAD.contains w = true := by decide
    rw [d w (List.contains_iff_mem.mp hc)] at this
    cases this
theorem bft_not {W : List (Nat × Nat)} (hW : W.all (fun w => !BFT.contains w) = true) {w : Nat × Nat} (hw : BFT.contains w = true) : w ∉ W := fun z => by
  have := List.all_eq_true.mp hW w z
  rw [hw] at this
  cases this
theorem bad_not {W : List (Nat × Nat)} (hW : W.all (fun w => !BAD.contains w) = true) {w : Nat × Nat} (hw : BAD.contains w = true) : w ∉ W := fun z => by
  have := List.all_eq_true.mp hW w z
  rw [hw] at this
  cases this
theorem FrOk.ext {W V : List (Nat × Nat)} {al : Bool} (h : FrOk cs Fs Ts M a) (e : Ext W V al M M') (hW : W.all (fun w => !BFT.contains w) = true) : FrOk cs Fs Ts M' a := by
  obtain ⟨b, h1, h2, h3⟩ := h.sl
  refine ⟨e.xcOk h.ok, ⟨b, by rw [e.xcQ h.ok (bft_not hW (by decide))]; exact h1, (e.aI h2).1, (e.aI h2).2.trans h3⟩, by rw [e.xcI h.ok (bft_not hW (by decide))]; exact h.ht, fun z hz => h.ha z (by rw [← e.xcQ h.ok (bft_not hW (by decide))]; exact hz), fun z hz => h.be z (by rw [← e.xcQ h.ok (bft_not hW (by decide))]; exact hz)⟩
theorem ThOk.ext {W V : List (Nat × Nat)} {al : Bool} (h : ThOk cs Fs M a) (e : Ext W V al M M') (hW : W.all (fun w => !BFT.contains w) = true) : ThOk cs Fs M' a := by
  obtain ⟨b, h1, h2, h3⟩ := h.nm
  refine ⟨e.xcOk h.ok, ⟨b, by rw [e.xcQ h.ok (bft_not hW (by decide))]; exact h1, (e.aI h2).1, (e.aI h2).2.trans h3⟩, fun z hz => h.up z (by rw [← e.xcQ h.ok (bft_not hW (by decide))]; exact hz), fun z hz => h.lo z (by rw [← e.xcQ h.ok (bft_not hW (by decide))]; exact hz)⟩
theorem LiI.move {W V : List (Nat × Nat)} {al : Bool} (h : LiI cs dE M a P sz n) (e : Ext W V al M M') (hW : W.all (fun w => !BAD.contains w) = true) (hV : V.contains (13, 0) = false) : LiI cs dE M' a P sz n := by
  refine h.ext e ?_ ?_ hV
  · have := bad_not hW (w := (13, 0)) (by decide)
    simpa [si_1, si_2, sl_1, sl_2, sl_3, ai_1, ai_2, ai_3, ai_4, al_1, al_2, al_3, al_4] using this
  · have := bad_not hW (w := (13, 1)) (by decide)
    simpa [si_1, si_2, sl_1, sl_2, sl_3, ai_1, ai_2, ai_3, ai_4, al_1, al_2, al_3, al_4] using this
theorem HTL.move {W V : List (Nat × Nat)} {al : Bool} {g4' : Nat → Int32} {k4' : Nat} (h : HTL cs dE A Fs Ts nf nt kf kt g4 k4 M) (e : Ext W V al M M') (hW : W.all (fun w => !BAD.contains w) = true) (hV : V.contains (13, 0) = false) (c4 : CeIs cs M' A.c4 g4' k4') : HTL cs dE A Fs Ts nf nt kf kt g4' k4' M' := by
  have hF : W.all (fun w => !FIN.contains w) = true := List.all_eq_true.mpr fun w hw => by
    have := List.all_eq_true.mp hW w hw
    cases hc : FIN.contains w with
    | false => rfl
    | true =>
      have hb : BAD.contains w = true := by
        have := List.contains_iff_mem.mp hc
        exact List.contains_iff_mem.mpr (List.mem_append_left _ this)
      rw [hb] at this
      cases this
  have o8 := h.lay.ma_0.1
  have o9 := h.lay.st_0.1
  refine ⟨h.lay.ext e hF, c4, fun a ha => (h.fr a ha).ext e (bft_bad hW), fun a ha => (h.th a ha).ext e (bft_bad hW), h.fl.move e hW hV, h.tl.move e hW hV, fun f hf => h.top f (by rw [← e.xcQ o8 (bad_not hW (by decide))]; exact hf), fun f hf => h.free f (by rw [← e.xcQ o9 (bad_not hW (by decide))]; exact hf), by rw [e.xcI o9 (bad_not hW (by decide))]; exact h.fu, by rw [e.xcI o9 (bad_not hW (by decide))]; exact h.tu, Nat.lt_of_lt_of_le h.de.1 e.sz.1, ?_⟩
  cases hc : M'.1 dE.1 with
  | none => rfl
  | some x =>
    have := e.fresh dE.1 h.de.2 (by rw [hc]; simp [si_1, si_2, sl_1, sl_2, sl_3, ai_1, ai_2, ai_3, ai_4, al_1, al_2, al_3, al_4])
    have := h.de.1
    omega
/-- a write of ints, and of what slots hold -/
theorem HTL.ext {W V : List (Nat × Nat)} {al : Bool} (h : HTL cs dE A Fs Ts nf nt kf kt g4 k4 M) (e : Ext W V al M M') (hW : W.all (fun w => !BAD.contains w && w != (2, 0)) = true) (hV : V.all (fun w => w != (13, 0) && w != (2, 0)) = true) : HTL cs dE A Fs Ts nf nt kf kt g4 k4 M' := by
  have w1 : W.all (fun w => !BAD.contains w) = true := List.all_eq_true.mpr fun w hw => by have := List.all_eq_true.mp hW w hw; simp only [Bool.and_eq_true] at this; exact this.1
  have nc : ∀ (L : List (Nat × Nat)) (x : Nat × Nat), (∀ w ∈ L, (w != x) = true) → L.contains x = false := fun L x hL => by
    cases hc : L.contains x with
    | false => rfl
    | true =>
      have := hL x (List.contains_iff_mem.mp hc)
      simp [si_1, si_2, sl_1, sl_2, sl_3, ai_1, ai_2, ai_3, ai_4, al_1, al_2, al_3, al_4] at this
  have w2 : W.contains (2, 0) = false := nc _ _ fun w hw => by have := List.all_eq_true.mp hW w hw; simp only [Bool.and_eq_true] at this; exact this.2
  have v1 : V.contains (13, 0) = false := nc _ _ fun w hw => by have := List.all_eq_true.mp hV w hw; simp only [Bool.and_eq_true] at this; exact this.1
  have v2 : V.contains (2, 0) = false := nc _ _ fun w hw => by have := List.all_eq_true.mp hV w hw; simp only [Bool.and_eq_true] at this; exact this.2
  exact h.move e w1 v1 (h.c4.ext e w2 v2)
end
end
