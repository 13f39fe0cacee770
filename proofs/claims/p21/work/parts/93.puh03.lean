-- pure rows: HE,HF
section
/-! pure rows: write, compile, as they are written -/
section
variable {cs : Nat → ClassId} {lim : Nat × Nat} {A : Ad} {σ : mSt} {N C R F T : Nat} {M : gMem} {l k : Nat} {Lf : gMem → Nat → Int32 → Int32 → gMem} {Ls : gMem → Nat → Int32 → Int32 → Prop} {d p n a fu : Nat} {x1 x2 x3 lv : Int32} {g : Nat → Int32}
theorem co_handleG (hW : HWG cs lim A σ N C F Lf Ls d) {f0 mm pa pb : Nat} (H : HC σ N C n lv d f0 mm) (hk : ((σ.2.2.1) 5 n).toInt = 8) (hv : 1 ≤ lv.toInt) (ha9 : PO σ N lv d ((σ.2.2.1) 9 n) pa) (hb10 : PO σ N lv d ((σ.2.2.1) 10 n) pb) (hfu : 200 ≤ fu) (ha : NodeAt M a (ndOf (σ.2.2.1) n)) (h : Wg cs lim A σ M N C F l k g) (hl : (l : Int) + 1 + 4 * Sz σ pa + 4 * Sz σ pb + 4 * csz σ f0 mm ≤ 1600) :
    S_Co_writeHandle cs lim fu Lf Ls M A.co (some a) lv ∧ ∃ l' k' g', Wg cs lim A σ (F_Co_writeHandle cs fu Lf M A.co (some a) lv) N C F l' k' g' ∧ We cs A M (F_Co_writeHandle cs fu Lf M A.co (some a) lv) k k' ∧ l ≤ l' ∧ (l' : Int) ≤ l + (4 * Sz σ pa + 4 * Sz σ pb + 4 * csz σ f0 mm - 1) ∧ (∀ i, i < l * 5 → g' i = g i) ∧ cOp g' l = 9 ∧ cFd g' l 3 = (σ.2.2.1) 6 n ∧ cFd g' l 4 = (σ.2.2.1) 15 n ∧ CH (σ.2.2.1) g' d f0 mm pa pb l l' ∧ ∀ q, q < mm → CR (σ.2.2.1) g' f0 l q := by
  have hf := H.f
  have hm := H.m
  have hle := H.le
  have h40 := H.c40
  have t8 : toOf (σ.2.2.1) n = (σ.2.2.1) 14 n + (σ.2.2.1) 15 n := by unfold toOf; rw [if_pos hk]
  have f7 : fromOf (σ.2.2.1) n = (σ.2.2.1) 14 n := by unfold fromOf; rw [if_pos hk]
  have n2 : nameOf (σ.2.2.1) n = (σ.2.2.1) 6 n := by unfold nameOf; rw [if_pos (by omega)]
  have cg := csz_ge (σ := σ) (f0 := f0) (m := mm) (k := 0) (Nat.zero_le _) (fun i hi => (H.b i hi).2.2.2.2.2)
  have c0 : csz σ f0 0 = 0 := rfl
  rw [c0] at cg
  have sa := ha9.s1
  have sb := hb10.s1
  unfold S_Co_writeHandle F_Co_writeHandle
  simp only [mbind_eq, Option.getD_some]
  obtain ⟨s1, v1, k1, w1, e1⟩ := co_addG h (x1 := 9) (x2 := 0) (by omega)
  generalize F_Co_add cs M A.co 9 0 = r1 at v1 w1 e1 ⊢
  have ha1 := ha.ext e1.ext (by decide)
  have p2 : cI r1.2 a 2 = (σ.2.2.1) 6 n := (ha1.2 2 (by decide)).trans n2
  obtain ⟨s2, k2, w2, e2⟩ := co_fillG w1 (x1 := r1.1) (x2 := 3) (x3 := cI r1.2 a 2) v1 (by omega) (i := 3) rfl (by decide)
  generalize F_Co_fill cs r1.2 A.co r1.1 3 (cI r1.2 a 2) = r2 at w2 e2 ⊢
  rw [p2] at w2
  have ha2 := ha1.ext e2.ext (by decide)
  have p8 : cI r2 a 8 - cI r2 a 7 = (σ.2.2.1) 15 n := by
    rw [show cI r2 a 8 = toOf (σ.2.2.1) n from ha2.2 8 (by decide), show cI r2 a 7 = fromOf (σ.2.2.1) n from ha2.2 7 (by decide), t8, f7]
    ((try (simp only [vp_in, Int32.toNatClampNeg, Int32.lt_iff_toInt_lt, Int32.le_iff_toInt_le, ← Int32.toInt_inj, Int32.toInt_add, Int32.toInt_sub, Int32.toInt_mul, Int32.reduceToInt, i32_neg1, Nat.reducePow, Int.reducePow, ne_eq, ge_iff_le, gt_iff_lt] at *)) <;> (first | omega | ((simp (disch := omega) only [bm32] at *) <;> omega)))
  obtain ⟨s3, k3, w3, e3⟩ := co_fillG w2 (x1 := r1.1) (x2 := 4) (x3 := cI r2 a 8 - cI r2 a 7) v1 (by omega) (i := 4) rfl (by decide)
  generalize F_Co_fill cs r2 A.co r1.1 4 (cI r2 a 8 - cI r2 a 7) = r3 at w3 e3 ⊢
  rw [p8] at w3
  have ha3 := ha2.ext e3.ext (by decide)
  have q7 : cI r3 a 7 = fromOf (σ.2.2.1) n := ha3.2 7 (by decide)
  rw [q7, f7]
  obtain ⟨s4, l4, k4, g4, w4, e4, h4, h4', lo4, ch4, cr4⟩ := co_39G hW H hk hv ha9 hb10 v1 (by omega) mm 0 ((σ.2.2.1) 14 n) fu r3 (l + 1) k3 _ (by omega) (Nat.zero_le _) (by omega) (by omega) ha3 w3 rfl (by omega)
  refine ⟨⟨h.wk.lay.co_0.1, s1, ⟨a, rfl, ha1.1⟩, w1.wk.lay.co_0.1, s2, ⟨a, rfl, ha2.1⟩, ⟨a, rfl, ha2.1⟩, w2.wk.lay.co_0.1, s3, ⟨a, rfl, ha3.1⟩, s4⟩, l4, k4, g4, w4, ((e1.trans h.wk.lay.mok e2).trans h.wk.lay.mok e3).trans h.wk.lay.mok e4, by omega, by omega, fun i hi => ?_, ?_, ?_, ?_, ch4, fun q hq => cr4 q (Nat.zero_le _) hq⟩
  · rw [lo4 i (by omega) (by omega) (by omega) (fun q hq => by omega), upd_at, if_neg (by omega), upd_at, if_neg (by omega), ad_lo hi]
  · unfold cOp
    rw [lo4 _ (by omega) (by omega) (by omega) (fun q hq => by omega), upd_at, if_neg (by omega), upd_at, if_neg (by omega)]
    exact ad_op
  · unfold cFd
    rw [lo4 _ (by omega) (by omega) (by omega) (fun q hq => by omega), upd_at, if_neg (by omega), upd_at, if_pos rfl]
  · unfold cFd
    rw [lo4 _ (by omega) (by omega) (by omega) (fun q hq => by omega), upd_at, if_pos rfl]
theorem co_choiceG (hW : HWG cs lim A σ N C F Lf Ls d) {pa pb pc : Nat} (hv : 1 ≤ lv.toInt) (h9 : PO σ N lv d ((σ.2.2.1) 9 n) pa) (h10 : PO σ N lv d ((σ.2.2.1) 10 n) pb) (h11 : PO σ N lv d ((σ.2.2.1) 11 n) pc) (ha : NodeAt M a (ndOf (σ.2.2.1) n)) (h : Wg cs lim A σ M N C F l k g) (hl : (l : Int) + 4 * Sz σ pa + 4 * Sz σ pb + 4 * Sz σ pc ≤ 1600) :
    S_Co_writeChoice cs lim fu Lf Ls M A.co (some a) lv ∧ ∃ l' k' g', Wg cs lim A σ (F_Co_writeChoice cs fu Lf M A.co (some a) lv) N C F l' k' g' ∧ We cs A M (F_Co_writeChoice cs fu Lf M A.co (some a) lv) k k' ∧ l ≤ l' ∧ (l' : Int) ≤ l + (4 * Sz σ pa + 4 * Sz σ pb + 4 * Sz σ pc - 4) ∧ (∀ i, i < l * 5 → g' i = g i) ∧ ∃ m m', Cd (σ.2.2.1) g' d pa l m ∧ cOp g' m = 6 ∧ (cFd g' m 1).toInt = (m' + 1 : Nat) ∧ Cd (σ.2.2.1) g' d pb (m + 1) m' ∧ cOp g' m' = 5 ∧ (cFd g' m' 1).toInt = (l' : Nat) ∧ Cd (σ.2.2.1) g' d pc (m' + 1) l' := by
  have sa := h9.s1
  have sb := h10.s1
  have sc := h11.s1
  have v9 := h9.v
  have d9 := h9.d1
  have v10 := h10.v
  have d10 := h10.d1
  have v11 := h11.v
  have d11 := h11.d1
  unfold S_Co_writeChoice F_Co_writeChoice
  simp only [mbind_eq, Option.getD_some]
  have q4 : cI M a 4 = (σ.2.2.1) 9 n := ha.2 4 (by decide)
  rw [q4]
  obtain ⟨s1, l1, k1, g1, w1, e1, h1, h1', lo1, cd1⟩ := hW M l k pa ((σ.2.2.1) 9 n) (lv + 1) g h9.n h9.x h9.d (by ((try (simp only [vp_in, Int32.toNatClampNeg, Int32.lt_iff_toInt_lt, Int32.le_iff_toInt_le, ← Int32.toInt_inj, Int32.toInt_add, Int32.toInt_sub, Int32.toInt_mul, Int32.reduceToInt, i32_neg1, Nat.reducePow, Int.reducePow, ne_eq, ge_iff_le, gt_iff_lt] at *)) <;> (first | omega | ((simp (disch := omega) only [bm32] at *) <;> omega)))) (by ((try (simp only [vp_in, Int32.toNatClampNeg, Int32.lt_iff_toInt_lt, Int32.le_iff_toInt_le, ← Int32.toInt_inj, Int32.toInt_add, Int32.toInt_sub, Int32.toInt_mul, Int32.reduceToInt, i32_neg1, Nat.reducePow, Int.reducePow, ne_eq, ge_iff_le, gt_iff_lt] at *)) <;> (first | omega | ((simp (disch := omega) only [bm32] at *) <;> omega)))) (by omega) h
  generalize Lf M A.co ((σ.2.2.1) 9 n) (lv + 1) = r1 at w1 e1 ⊢
  have ha1 := ha.ext e1.ext (by decide)
  obtain ⟨s2, v2, k2, w2, e2⟩ := co_addG w1 (x1 := 6) (x2 := 0) (by omega)
  generalize F_Co_add cs r1 A.co 6 0 = r2 at v2 w2 e2 ⊢
  have ha2 := ha1.ext e2.ext (by decide)
  have q5 : cI r2.2 a 5 = (σ.2.2.1) 10 n := ha2.2 5 (by decide)
  rw [q5]
  obtain ⟨s3, l3, k3, g3, w3, e3, h3, h3', lo3, cd3⟩ := hW r2.2 (l1 + 1) k2 pb ((σ.2.2.1) 10 n) (lv + 1) _ h10.n h10.x h10.d (by ((try (simp only [vp_in, Int32.toNatClampNeg, Int32.lt_iff_toInt_lt, Int32.le_iff_toInt_le, ← Int32.toInt_inj, Int32.toInt_add, Int32.toInt_sub, Int32.toInt_mul, Int32.reduceToInt, i32_neg1, Nat.reducePow, Int.reducePow, ne_eq, ge_iff_le, gt_iff_lt] at *)) <;> (first | omega | ((simp (disch := omega) only [bm32] at *) <;> omega)))) (by ((try (simp only [vp_in, Int32.toNatClampNeg, Int32.lt_iff_toInt_lt, Int32.le_iff_toInt_le, ← Int32.toInt_inj, Int32.toInt_add, Int32.toInt_sub, Int32.toInt_mul, Int32.reduceToInt, i32_neg1, Nat.reducePow, Int.reducePow, ne_eq, ge_iff_le, gt_iff_lt] at *)) <;> (first | omega | ((simp (disch := omega) only [bm32] at *) <;> omega)))) (by omega) w2
  generalize Lf r2.2 A.co ((σ.2.2.1) 10 n) (lv + 1) = r3 at w3 e3 ⊢
  have ha3 := ha2.ext e3.ext (by decide)
  obtain ⟨s4, v4, k4, w4, e4⟩ := co_addG w3 (x1 := 5) (x2 := 0) (by omega)
  generalize F_Co_add cs r3 A.co 5 0 = r4 at v4 w4 e4 ⊢
  have ha4 := ha3.ext e4.ext (by decide)
  have len4 := w4.wk.len
  obtain ⟨s5, k5, w5, e5⟩ := co_fillG w4 (x1 := r2.1) (x2 := 1) (x3 := cI r4.2 A.co 2) v2 (by omega) (i := 1) rfl (by decide)
  generalize F_Co_fill cs r4.2 A.co r2.1 1 (cI r4.2 A.co 2) = r5 at w5 e5 ⊢
  have ha5 := ha4.ext e5.ext (by decide)
  have q6 : cI r5 a 6 = (σ.2.2.1) 11 n := ha5.2 6 (by decide)
  rw [q6]
  obtain ⟨s6, l6, k6, g6, w6, e6, h6, h6', lo6, cd6⟩ := hW r5 (l3 + 1) k5 pc ((σ.2.2.1) 11 n) (lv + 1) _ h11.n h11.x h11.d (by ((try (simp only [vp_in, Int32.toNatClampNeg, Int32.lt_iff_toInt_lt, Int32.le_iff_toInt_le, ← Int32.toInt_inj, Int32.toInt_add, Int32.toInt_sub, Int32.toInt_mul, Int32.reduceToInt, i32_neg1, Nat.reducePow, Int.reducePow, ne_eq, ge_iff_le, gt_iff_lt] at *)) <;> (first | omega | ((simp (disch := omega) only [bm32] at *) <;> omega)))) (by ((try (simp only [vp_in, Int32.toNatClampNeg, Int32.lt_iff_toInt_lt, Int32.le_iff_toInt_le, ← Int32.toInt_inj, Int32.toInt_add, Int32.toInt_sub, Int32.toInt_mul, Int32.reduceToInt, i32_neg1, Nat.reducePow, Int.reducePow, ne_eq, ge_iff_le, gt_iff_lt] at *)) <;> (first | omega | ((simp (disch := omega) only [bm32] at *) <;> omega)))) (by omega) w5
  generalize Lf r5 A.co ((σ.2.2.1) 11 n) (lv + 1) = r6 at w6 e6 ⊢
  have len6 := w6.wk.len
  obtain ⟨s7, k7, w7, e7⟩ := co_fillG w6 (x1 := r4.1) (x2 := 1) (x3 := cI r6 A.co 2) v4 (by omega) (i := 1) rfl (by decide)
  generalize F_Co_fill cs r6 A.co r4.1 1 (cI r6 A.co 2) = r7 at w7 e7 ⊢
  have t3 := cd3.lt
  have t6 := cd6.lt
  refine ⟨⟨⟨a, rfl, ha.1⟩, h.wk.lay.co_0.1, s1, w1.wk.lay.co_0.1, s2, ⟨a, rfl, ha2.1⟩, w2.wk.lay.co_0.1, s3, w3.wk.lay.co_0.1, s4, w4.wk.lay.co_0.1, w4.wk.lay.co_0.1, s5, ⟨a, rfl, ha5.1⟩, w5.wk.lay.co_0.1, s6, w6.wk.lay.co_0.1, w6.wk.lay.co_0.1, s7, trivial⟩, l6, k7, _, w7, ((((((e1.trans h.wk.lay.mok e2).trans h.wk.lay.mok e3).trans h.wk.lay.mok e4).trans h.wk.lay.mok e5).trans h.wk.lay.mok e6).trans h.wk.lay.mok e7), by omega, by omega, fun i hi => ?_, l1, l3, cd1.cong (fun i z1 z2 => ?_), ?_, ?_, cd3.cong (fun i z1 z2 => ?_), ?_, ?_, cd6.cong (fun i z1 z2 => ?_)⟩
  · rw [upd_at, if_neg (by omega), lo6 i (by omega), upd_at, if_neg (by omega), ad_lo (by omega), lo3 i (by omega), ad_lo (by omega), lo1 i hi]
  · rw [upd_at, if_neg (by omega), lo6 i (by omega), upd_at, if_neg (by omega), ad_lo (by omega), lo3 i (by omega), ad_lo (by omega)]
  · unfold cOp
    rw [upd_at, if_neg (by omega), lo6 _ (by omega), upd_at, if_neg (by omega), ad_lo (by omega), lo3 _ (by omega)]
    exact ad_op
  · unfold cFd
    rw [upd_at, if_neg (by omega), lo6 _ (by omega), upd_at, if_pos rfl]
    exact len4
  · rw [upd_at, if_neg (by omega), lo6 i (by omega), upd_at, if_neg (by omega), ad_lo (by omega)]
  · unfold cOp
    rw [upd_at, if_neg (by omega), lo6 _ (by omega), upd_at, if_neg (by omega)]
    exact ad_op
  · rw [fl_fd]
    exact len6
  · rw [upd_at, if_neg (by omega)]
end
end
section
/-! pure rows: a whole program, as it is written -/
section
variable {A : Nat → Nat → Int32} {g : Nat → Int32} {d n l l' : Nat}
theorem Cd.k3 (c : (A 5 n).toInt = 3) (h : cOp g l = 2 ∧ cFd g l 1 = A 6 n ∧ l' = l + 1) : Cd A g (d + 1) n l l' := by
  unfold Cd
  rw [if_pos c]
  exact h
theorem Cd.k4 (c : (A 5 n).toInt = 4) (h : ∃ m m', Cd A g d (A 9 n).toInt.toNat l m ∧ cOp g m = 3 ∧ cFd g m 1 = A 6 n ∧ Cd A g d (A 10 n).toInt.toNat (m + 1) m' ∧ cOp g m' = 4 ∧ cFd g m' 1 = A 6 n ∧ l' = m' + 1) : Cd A g (d + 1) n l l' := by
  unfold Cd
  rw [if_neg (by omega), if_pos c]
  exact h
theorem Cd.k5 (c : (A 5 n).toInt = 5) (h : ∃ m m', cOp g l = 8 ∧ cFd g l 1 = A 7 n ∧ cFd g l 2 = A 6 n ∧ (cFd g l 3).toInt = (m + 1 : Nat) ∧ Cd A g d (A 9 n).toInt.toNat (l + 1) m ∧ cOp g m = 0 ∧ cOp g (m + 1) = 3 ∧ cFd g (m + 1) 1 = A 6 n ∧ Cd A g d (A 10 n).toInt.toNat (m + 2) m' ∧ cOp g m' = 4 ∧ cFd g m' 1 = A 6 n ∧ l' = m' + 1) : Cd A g (d + 1) n l l' := by
  unfold Cd
  rw [if_neg (by omega), if_neg (by omega), if_pos c]
  exact h
theorem Cd.k7 (c : (A 5 n).toInt = 7) (h : ∃ m, cOp g l = 8 ∧ cFd g l 1 = A 6 n ∧ cFd g l 2 = -1 ∧ (cFd g l 3).toInt = (m + 1 : Nat) ∧ Cd A g d (A 9 n).toInt.toNat (l + 1) m ∧ cOp g m = 0 ∧ l' = m + 1) : Cd A g (d + 1) n l l' := by
  unfold Cd
  rw [if_neg (by omega), if_neg (by omega), if_neg (by omega), if_pos c]
  exact h
theorem Cd.k6 (c : (A 5 n).toInt = 6) (h : ∃ m m', Cd A g d (A 9 n).toInt.toNat l m ∧ cOp g m = 6 ∧ (cFd g m 1).toInt = (m' + 1 : Nat) ∧ Cd A g d (A 10 n).toInt.toNat (m + 1) m' ∧ cOp g m' = 5 ∧ (cFd g m' 1).toInt = (l' : Nat) ∧ Cd A g d (A 11 n).toInt.toNat (m' + 1) l') : Cd A g (d + 1) n l l' := by
  unfold Cd
  rw [if_neg (by omega), if_neg (by omega), if_neg (by omega), if_neg (by omega), if_pos c]
  exact h
theorem Cd.k8 (c : (A 5 n).toInt = 8) (h1 : cOp g l = 9) (h2 : cFd g l 3 = A 6 n) (h3 : cFd g l 4 = A 15 n) (h : CH A g d (A 14 n).toInt.toNat (A 15 n).toInt.toNat (A 9 n).toInt.toNat (A 10 n).toInt.toNat l l') (r : ∀ q, q < (A 15 n).toInt.toNat → CR A g (A 14 n).toInt.toNat l q) : Cd A g (d + 1) n l l' := by
  unfold Cd
  rw [if_neg (by omega), if_neg (by omega), if_neg (by omega), if_neg (by omega), if_neg (by omega), if_pos c]
  obtain ⟨m, m', y1, y2, y3, y4, y5, y6, y7, y8⟩ := h
  refine ⟨m, m', h1, h2, h3, y1, y2, y3, y4, y5, y6, y7, fun j hj => ?_⟩
  obtain ⟨z1, z2, z3, z4⟩ := r j hj
  obtain ⟨b, b', u1, u2, u3, u4, u5⟩ := y8 j hj
  exact ⟨z1, z2, z3, z4, b, b', u1, by omega, u3, u4, u5⟩
theorem Cd.k9 (c : (A 5 n).toInt = 9) (h : ∃ m m', Cd A g d (A 9 n).toInt.toNat l m ∧ Cd A g d (A 10 n).toInt.toNat m m' ∧ cOp g m' = 7 ∧ cFd g m' 1 = A 6 n ∧ l' = m' + 1) : Cd A g (d + 1) n l l' := by
  unfold Cd
  rw [if_neg (by omega), if_neg (by omega), if_neg (by omega), if_neg (by omega), if_neg (by omega), if_neg (by omega), if_pos c]
  exact h
theorem Cd.k10 (c : (A 5 n).toInt = 10) (h : ∃ m m', Cd A g d (A 9 n).toInt.toNat l m ∧ Cd A g d (A 10 n).toInt.toNat m m' ∧ cOp g m' = 12 ∧ l' = m' + 1) : Cd A g (d + 1) n l l' := by
  unfold Cd
  rw [if_neg (by omega), if_neg (by omega), if_neg (by omega), if_neg (by omega), if_neg (by omega), if_neg (by omega), if_neg (by omega), if_pos c]
  exact h
theorem Cd.k11 (c : (A 5 n).toInt = 11) (h : ∃ m, Cd A g d (A 9 n).toInt.toNat l m ∧ cOp g m = 13 ∧ cFd g m 1 = A 6 n ∧ l' = m + 1) : Cd A g (d + 1) n l l' := by
  unfold Cd
  rw [if_neg (by omega), if_neg (by omega), if_neg (by omega), if_neg (by omega), if_neg (by omega), if_neg (by omega), if_neg (by omega), if_neg (by omega), if_pos c]
  exact h
theorem Cd.k0 (c3 : ¬ (A 5 n).toInt = 3) (c4 : ¬ (A 5 n).toInt = 4) (c5 : ¬ (A 5 n).toInt = 5) (c6 : ¬ (A 5 n).toInt = 6) (c7 : ¬ (A 5 n).toInt = 7) (c8 : ¬ (A 5 n).toInt = 8) (c9 : ¬ (A 5 n).toInt = 9) (c10 : ¬ (A 5 n).toInt = 10) (c11 : ¬ (A 5 n).toInt = 11) (h : cOp g l = 1 ∧ cFd g l 1 = valOf A n ∧ l' = l + 1) : Cd A g (d + 1) n l l' := by
  unfold Cd
  rw [if_neg c3, if_neg c4, if_neg c5, if_neg c7, if_neg c6, if_neg c8, if_neg c9, if_neg c10, if_neg c11]
  exact h
end
section
variable {cs : Nat → ClassId} {lim : Nat × Nat} {A : Ad} {σ : mSt} {N C R F T : Nat} {M : gMem} {l k : Nat} {d n a fu : Nat} {lv : Int32} {g : Nat → Int32}
theorem co_writeG (X : Ctx σ N C R T) (hf : 200 ≤ fu) : ∀ d, HWG cs lim A σ N C F (F_Co_write cs fu d) (S_Co_write cs lim fu d) d := by
  intro d
  induction d with
  | zero =>
    intro M l k m x lv g hm hx hd
    have := (X.nok.nd m hm).dp
    omega
  | succ d ih =>
    intro M l k n x lv g hn hx hd hv hv2 hl h
    have N0 := X.nok.nd n hn
    have dp := N0.dp
    have s1 := N0.s1
    have kk := N0.k
    have s2 := N0.s2 (by omega)
    have hq0 : cQ M A.co 0 = some A.ns := h.wk.lay.co_0.2
    obtain ⟨sat, a, va, -, ha⟩ := ns_at (lim := lim) h.wk.lay h.wk.ns hx hn
    have h40 : lv ≤ 40 := by ((try (simp only [vp_in, Int32.toNatClampNeg, Int32.lt_iff_toInt_lt, Int32.le_iff_toInt_le, ← Int32.toInt_inj, Int32.toInt_add, Int32.toInt_sub, Int32.toInt_mul, Int32.reduceToInt, i32_neg1, Nat.reducePow, Int.reducePow, ne_eq, ge_iff_le, gt_iff_lt] at *)) <;> (first | omega | ((simp (disch := omega) only [bm32] at *) <;> omega)))
    simp only [S_Co_write, F_Co_write, if_pos h40, mbind_eq, hq0, Option.getD_some, va]
    have q0 : cI M a 0 = (σ.2.2.1) 5 n := ha.2 0 (by decide)
    have b1 := h.wk.lay.co_0.1
    have b2 : cOq 3 M (some A.ns) := ⟨_, rfl, h.wk.lay.ns_0.1⟩
    have b3 : cOq 4 M (some a) := ⟨a, rfl, ha.1⟩
    have K0 : ∀ z : Int32, ∀ y : Int, z.toInt = y → (cI M a 0 = z ↔ ((σ.2.2.1) 5 n).toInt = y) := fun z y hz => by rw [q0, ← Int32.toInt_inj, hz]
    have kd3 := K0 3 3 rfl
    have kd4 := K0 4 4 rfl
    have kd5 := K0 5 5 rfl
    have kd6 := K0 6 6 rfl
    have kd7 := K0 7 7 rfl
    have kd8 := K0 8 8 rfl
    have kd9 := K0 9 9 rfl
    have kd10 := K0 10 10 rfl
    have kd11 := K0 11 11 rfl
    have pA : 4 ≤ ((σ.2.2.1) 5 n).toInt → PO σ N lv d ((σ.2.2.1) 9 n) ((σ.2.2.1) 9 n).toInt.toNat ∧ sz σ ((σ.2.2.1) 9 n) = Sz σ ((σ.2.2.1) 9 n).toInt.toNat := fun z => ⟨part_po X hn N0.pa (N0.ha z) hd hv2, sz_of (N0.ha z)⟩
    have pB : ((σ.2.2.1) 5 n).toInt = 4 ∨ ((σ.2.2.1) 5 n).toInt = 5 ∨ ((σ.2.2.1) 5 n).toInt = 6 ∨ ((σ.2.2.1) 5 n).toInt = 8 ∨ ((σ.2.2.1) 5 n).toInt = 9 ∨ ((σ.2.2.1) 5 n).toInt = 10 → PO σ N lv d ((σ.2.2.1) 10 n) ((σ.2.2.1) 10 n).toInt.toNat ∧ sz σ ((σ.2.2.1) 10 n) = Sz σ ((σ.2.2.1) 10 n).toInt.toNat := fun z => ⟨part_po X hn N0.pb (N0.hb z) hd hv2, sz_of (N0.hb z)⟩
    have pC : ((σ.2.2.1) 5 n).toInt = 6 → PO σ N lv d ((σ.2.2.1) 11 n) ((σ.2.2.1) 11 n).toInt.toNat ∧ sz σ ((σ.2.2.1) 11 n) = Sz σ ((σ.2.2.1) 11 n).toInt.toNat := fun z => ⟨part_po X hn N0.pc (N0.hc z) hd hv2, sz_of (N0.hc z)⟩
    have z0 : ∀ q : Int32, Pt σ n q → 0 ≤ sz σ q := fun q hq => by
      unfold sz
      split
      · exact Int.le_refl _
      · rcases hq with e | ⟨e1, e2, e3⟩
        · contradiction
        · have := (X.nok.nd q.toInt.toNat (by omega)).s1
          omega
    have za := z0 _ N0.pa
    have zb := z0 _ N0.pb
    have zc := z0 _ N0.pc
    have q4 : cI M a 4 = (σ.2.2.1) 9 n := ha.2 4 (by decide)
    by_cases c3 : ((σ.2.2.1) 5 n).toInt = 3
    · simp only [if_pos (kd3.mpr c3)]
      obtain ⟨s, v, k1, w1, e1⟩ := co_addG h (x1 := 2) (x2 := cI M a 1) (by omega)
      refine ⟨⟨b1, b2, sat, b3, b3, b1, s, trivial⟩, l + 1, k1, _, w1, e1, by omega, by omega, fun i hi => ad_lo hi, Cd.k3 c3 ⟨ad_op, ?_, rfl⟩⟩
      rw [ad_fd, show cI M a 1 = valOf (σ.2.2.1) n from ha.2 1 (by decide)]
      unfold valOf
      rw [if_pos (by omega)]
    simp only [if_neg (fun z => c3 (kd3.mp z))]
    by_cases c4 : ((σ.2.2.1) 5 n).toInt = 4
    · simp only [if_pos (kd4.mpr c4), q4]
      obtain ⟨A9, e9⟩ := pA (by omega)
      obtain ⟨A10, e10⟩ := pB (by omega)
      have nz := csz_nn X.nok hn (by omega)
      rw [e9, e10, nz] at s2
      have v9 := A9.v
      have d9 := A9.d1
      have t9 := A9.s1
      have t10 := A10.s1
      obtain ⟨sw, l1, k1, g1, w1, e1, h1, h1', lo1, cd1⟩ := ih M l k _ ((σ.2.2.1) 9 n) (lv + 1) g A9.n A9.x A9.d (by ((try (simp only [vp_in, Int32.toNatClampNeg, Int32.lt_iff_toInt_lt, Int32.le_iff_toInt_le, ← Int32.toInt_inj, Int32.toInt_add, Int32.toInt_sub, Int32.toInt_mul, Int32.reduceToInt, i32_neg1, Nat.reducePow, Int.reducePow, ne_eq, ge_iff_le, gt_iff_lt] at *)) <;> (first | omega | ((simp (disch := omega) only [bm32] at *) <;> omega)))) (by ((try (simp only [vp_in, Int32.toNatClampNeg, Int32.lt_iff_toInt_lt, Int32.le_iff_toInt_le, ← Int32.toInt_inj, Int32.toInt_add, Int32.toInt_sub, Int32.toInt_mul, Int32.reduceToInt, i32_neg1, Nat.reducePow, Int.reducePow, ne_eq, ge_iff_le, gt_iff_lt] at *)) <;> (first | omega | ((simp (disch := omega) only [bm32] at *) <;> omega)))) (by omega) h
      generalize F_Co_write cs fu d M A.co ((σ.2.2.1) 9 n) (lv + 1) = r1 at w1 e1 ⊢
      have ha1 := ha.ext e1.ext (by decide)
      have q5 : cI r1 a 5 = (σ.2.2.1) 10 n := ha1.2 5 (by decide)
      have qn : cI r1 a 2 = (σ.2.2.1) 6 n := by
        rw [show cI r1 a 2 = nameOf (σ.2.2.1) n from ha1.2 2 (by decide)]
        unfold nameOf
        rw [if_pos (by omega)]
      rw [q5]
      obtain ⟨ss, l2, k2, g2, w2, e2, h2, h2', lo2, u1, u2, u3, u4, u5⟩ := co_scopeG (fu := fu) (x1 := cI r1 a 2) ih A10.n A10.x A10.d hv A10.v A10.d1 A10.s1 (by omega) w1
      rw [qn] at u2 u5
      exact ⟨⟨b1, b2, sat, b3, b3, b1, sw, ⟨a, rfl, ha1.1⟩, ⟨a, rfl, ha1.1⟩, w1.wk.lay.co_0.1, ss, trivial⟩, l2 + 1, k2, g2, w2, e1.trans h.wk.lay.mok e2, by omega, by omega, fun i hi => by rw [lo2 i (by omega), lo1 i hi], Cd.k4 c4 ⟨l1, l2, cd1.cong (fun i z1 z2 => lo2 i z2), u1, u2, u3, u4, u5, rfl⟩⟩
    simp only [if_neg (fun z => c4 (kd4.mp z))]
    by_cases c5 : ((σ.2.2.1) 5 n).toInt = 5
    · simp only [if_pos (kd5.mpr c5)]
      obtain ⟨A9, e9⟩ := pA (by omega)
      obtain ⟨A10, e10⟩ := pB (by omega)
      have nz := csz_nn X.nok hn (by omega)
      rw [e9, e10, nz] at s2
      have t9 := A9.s1
      have t10 := A10.s1
      have n2 : ndOf (σ.2.2.1) n 2 = (σ.2.2.1) 7 n := by
        show nameOf (σ.2.2.1) n = _
        unfold nameOf
        rw [if_neg (by omega), if_pos c5]
      have n3 : ndOf (σ.2.2.1) n 3 = (σ.2.2.1) 6 n := by
        show ownOf (σ.2.2.1) n = _
        unfold ownOf
        rw [if_pos c5]
      obtain ⟨sw, l1, k1, g1, w1, e1, h1, h1', lo1, y1, y2, y3, y4, y5, y6⟩ := co_functionG (fu := fu) ih ha A9.n A9.x A9.d hv A9.v A9.d1 A9.s1 (by omega) h
      rw [n2] at y2
      rw [n3] at y3
      generalize F_Co_writeFunction cs fu (F_Co_write cs fu d) M A.co (some a) lv = r1 at w1 e1 ⊢
      have ha1 := ha.ext e1.ext (by decide)
      have q5 : cI r1 a 5 = (σ.2.2.1) 10 n := ha1.2 5 (by decide)
      have qn : cI r1 a 3 = (σ.2.2.1) 6 n := (ha1.2 3 (by decide)).trans n3
      rw [q5]
      obtain ⟨ss, l2, k2, g2, w2, e2, h2, h2', lo2, u1, u2, u3, u4, u5⟩ := co_scopeG (fu := fu) (x1 := cI r1 a 3) ih A10.n A10.x A10.d hv A10.v A10.d1 A10.s1 (by omega) w1
      rw [qn] at u2 u5
      refine ⟨⟨b1, b2, sat, b3, b1, sw, ⟨a, rfl, ha1.1⟩, ⟨a, rfl, ha1.1⟩, w1.wk.lay.co_0.1, ss, trivial⟩, l2 + 1, k2, g2, w2, e1.trans h.wk.lay.mok e2, by omega, by omega, fun i hi => by rw [lo2 i (by omega), lo1 i hi], Cd.k5 c5 ⟨l1, l2, ?_, ?_, ?_, ?_, y5.cong (fun i z1 z2 => lo2 i (by omega)), ?_, u1, u2, u3, u4, u5, rfl⟩⟩
      · rw [kp_op lo2 (by omega)]; exact y1
      · rw [kp_fd lo2 (by omega) (by omega)]; exact y2
      · rw [kp_fd lo2 (by omega) (by omega)]; exact y3
      · rw [kp_fd lo2 (by omega) (by omega)]; exact y4
      · rw [kp_op lo2 (by omega)]; exact y6
    simp only [if_neg (fun z => c5 (kd5.mp z))]
    by_cases c6 : ((σ.2.2.1) 5 n).toInt = 6
    · simp only [if_pos (kd6.mpr c6)]
      obtain ⟨A9, e9⟩ := pA (by omega)
      obtain ⟨A10, e10⟩ := pB (by omega)
      obtain ⟨A11, e11⟩ := pC c6
      have nz := csz_nn X.nok hn (by omega)
      rw [e9, e10, e11, nz] at s2
      obtain ⟨sw, l1, k1, g1, w1, e1, h1, h1', lo1, cc⟩ := co_choiceG (fu := fu) ih hv A9 A10 A11 ha h (by omega)
      exact ⟨⟨b1, b2, sat, b3, b1, sw, trivial⟩, l1, k1, g1, w1, e1, by omega, by omega, lo1, Cd.k6 c6 cc⟩
    simp only [if_neg (fun z => c6 (kd6.mp z))]
    by_cases c7 : ((σ.2.2.1) 5 n).toInt = 7
    · simp only [if_pos (kd7.mpr c7)]
      obtain ⟨A9, e9⟩ := pA (by omega)
      have nz := csz_nn X.nok hn (by omega)
      rw [e9, nz] at s2
      have t9 := A9.s1
      have n2 : ndOf (σ.2.2.1) n 2 = (σ.2.2.1) 6 n := by
        show nameOf (σ.2.2.1) n = _
        unfold nameOf
        rw [if_pos (by omega)]
      have n3 : ndOf (σ.2.2.1) n 3 = -1 := by
        show ownOf (σ.2.2.1) n = _
        unfold ownOf
        rw [if_neg (by omega)]
      obtain ⟨sw, l1, k1, g1, w1, e1, h1, h1', lo1, y1, y2, y3, y4, y5, y6⟩ := co_functionG (fu := fu) ih ha A9.n A9.x A9.d hv A9.v A9.d1 A9.s1 (by omega) h
      rw [n2] at y2
      rw [n3] at y3
      exact ⟨⟨b1, b2, sat, b3, b1, sw, trivial⟩, l1 + 1, k1, g1, w1, e1, by omega, by omega, lo1, Cd.k7 c7 ⟨l1, y1, y2, y3, y4, y5, y6, rfl⟩⟩
    simp only [if_neg (fun z => c7 (kd7.mp z))]
    by_cases c8 : ((σ.2.2.1) 5 n).toInt = 8
    · simp only [if_pos (kd8.mpr c8)]
      obtain ⟨A9, e9⟩ := pA (by omega)
      obtain ⟨A10, e10⟩ := pB (by omega)
      have t9 := A9.s1
      have t10 := A10.s1
      have cm := N0.cm.1
      have cf := N0.cf c8
      have hc40 := X.nok.hc
      rw [e9, e10] at s2
      have H : HC σ N C n lv d ((σ.2.2.1) 14 n).toInt.toNat ((σ.2.2.1) 15 n).toInt.toNat := by
        refine ⟨by omega, by omega, by omega, hc40, fun j hj => ?_⟩
        have ce := N0.ce c8 (((σ.2.2.1) 14 n).toInt.toNat + j) (by omega) (by omega)
        have N1 := X.nok.nd ((σ.2.2.1) 19 (((σ.2.2.1) 14 n).toInt.toNat + j)).toInt.toNat (by omega)
        have i1 := N1.dp
        have i2 := N1.s1
        exact ⟨ce.1, by omega, by omega, by omega, i1.1, i2.1⟩
      have cg := csz_ge (σ := σ) (f0 := ((σ.2.2.1) 14 n).toInt.toNat) (m := ((σ.2.2.1) 15 n).toInt.toNat) (k := 0) (Nat.zero_le _) (fun i hi => (H.b i hi).2.2.2.2.2)
      obtain ⟨sw, l1, k1, g1, w1, e1, h1, h1', lo1, y1, y2, y3, y4, y5⟩ := co_handleG ih H c8 hv A9 A10 hf ha h (by omega)
      exact ⟨⟨b1, b2, sat, b3, b1, sw, trivial⟩, l1, k1, g1, w1, e1, by omega, by omega, lo1, Cd.k8 c8 y1 y2 y3 y4 y5⟩
    simp only [if_neg (fun z => c8 (kd8.mp z))]
    by_cases c9 : ((σ.2.2.1) 5 n).toInt = 9
    · simp only [if_pos (kd9.mpr c9), q4]
      obtain ⟨A9, e9⟩ := pA (by omega)
      obtain ⟨A10, e10⟩ := pB (by omega)
      have nz := csz_nn X.nok hn (by omega)
      rw [e9, e10, nz] at s2
      have v9 := A9.v
      have d9 := A9.d1
      have v10 := A10.v
      have d10 := A10.d1
      have t9 := A9.s1
      have t10 := A10.s1
      obtain ⟨sw, l1, k1, g1, w1, e1, h1, h1', lo1, cd1⟩ := ih M l k _ ((σ.2.2.1) 9 n) (lv + 1) g A9.n A9.x A9.d (by ((try (simp only [vp_in, Int32.toNatClampNeg, Int32.lt_iff_toInt_lt, Int32.le_iff_toInt_le, ← Int32.toInt_inj, Int32.toInt_add, Int32.toInt_sub, Int32.toInt_mul, Int32.reduceToInt, i32_neg1, Nat.reducePow, Int.reducePow, ne_eq, ge_iff_le, gt_iff_lt] at *)) <;> (first | omega | ((simp (disch := omega) only [bm32] at *) <;> omega)))) (by ((try (simp only [vp_in, Int32.toNatClampNeg, Int32.lt_iff_toInt_lt, Int32.le_iff_toInt_le, ← Int32.toInt_inj, Int32.toInt_add, Int32.toInt_sub, Int32.toInt_mul, Int32.reduceToInt, i32_neg1, Nat.reducePow, Int.reducePow, ne_eq, ge_iff_le, gt_iff_lt] at *)) <;> (first | omega | ((simp (disch := omega) only [bm32] at *) <;> omega)))) (by omega) h
      generalize F_Co_write cs fu d M A.co ((σ.2.2.1) 9 n) (lv + 1) = r1 at w1 e1 ⊢
      have ha1 := ha.ext e1.ext (by decide)
      have q5 : cI r1 a 5 = (σ.2.2.1) 10 n := ha1.2 5 (by decide)
      rw [q5]
      obtain ⟨sw2, l2, k2, g2, w2, e2, h2, h2', lo2, cd2⟩ := ih r1 l1 k1 _ ((σ.2.2.1) 10 n) (lv + 1) g1 A10.n A10.x A10.d (by ((try (simp only [vp_in, Int32.toNatClampNeg, Int32.lt_iff_toInt_lt, Int32.le_iff_toInt_le, ← Int32.toInt_inj, Int32.toInt_add, Int32.toInt_sub, Int32.toInt_mul, Int32.reduceToInt, i32_neg1, Nat.reducePow, Int.reducePow, ne_eq, ge_iff_le, gt_iff_lt] at *)) <;> (first | omega | ((simp (disch := omega) only [bm32] at *) <;> omega)))) (by ((try (simp only [vp_in, Int32.toNatClampNeg, Int32.lt_iff_toInt_lt, Int32.le_iff_toInt_le, ← Int32.toInt_inj, Int32.toInt_add, Int32.toInt_sub, Int32.toInt_mul, Int32.reduceToInt, i32_neg1, Nat.reducePow, Int.reducePow, ne_eq, ge_iff_le, gt_iff_lt] at *)) <;> (first | omega | ((simp (disch := omega) only [bm32] at *) <;> omega)))) (by omega) w1
      generalize F_Co_write cs fu d r1 A.co ((σ.2.2.1) 10 n) (lv + 1) = r2 at w2 e2 ⊢
      have ha2 := ha1.ext e2.ext (by decide)
      have qv : cI r2 a 1 = (σ.2.2.1) 6 n := by
        rw [show cI r2 a 1 = valOf (σ.2.2.1) n from ha2.2 1 (by decide)]
        unfold valOf
        rw [if_pos (by omega)]
      obtain ⟨s3, v3, k3, w3, e3⟩ := co_addG w2 (x1 := 7) (x2 := cI r2 a 1) (by omega)
      refine ⟨⟨b1, b2, sat, b3, b3, b1, sw, ⟨a, rfl, ha1.1⟩, w1.wk.lay.co_0.1, sw2, ⟨a, rfl, ha2.1⟩, w2.wk.lay.co_0.1, s3, trivial⟩, l2 + 1, k3, _, w3, (e1.trans h.wk.lay.mok e2).trans h.wk.lay.mok e3, by omega, by omega, fun i hi => by rw [ad_lo (by omega), lo2 i (by omega), lo1 i hi], Cd.k9 c9 ⟨l1, l2, cd1.cong (fun i z1 z2 => by rw [ad_lo (by omega), lo2 i z2]), cd2.cong (fun i z1 z2 => ad_lo z2), ad_op, ?_, rfl⟩⟩
      rw [ad_fd]
      exact qv
    simp only [if_neg (fun z => c9 (kd9.mp z))]
    by_cases c10 : ((σ.2.2.1) 5 n).toInt = 10
    · simp only [if_pos (kd10.mpr c10), q4]
      obtain ⟨A9, e9⟩ := pA (by omega)
      obtain ⟨A10, e10⟩ := pB (by omega)
      have nz := csz_nn X.nok hn (by omega)
      rw [e9, e10, nz] at s2
      have v9 := A9.v
      have d9 := A9.d1
      have v10 := A10.v
      have d10 := A10.d1
      have t9 := A9.s1
      have t10 := A10.s1
      obtain ⟨sw, l1, k1, g1, w1, e1, h1, h1', lo1, cd1⟩ := ih M l k _ ((σ.2.2.1) 9 n) (lv + 1) g A9.n A9.x A9.d (by ((try (simp only [vp_in, Int32.toNatClampNeg, Int32.lt_iff_toInt_lt, Int32.le_iff_toInt_le, ← Int32.toInt_inj, Int32.toInt_add, Int32.toInt_sub, Int32.toInt_mul, Int32.reduceToInt, i32_neg1, Nat.reducePow, Int.reducePow, ne_eq, ge_iff_le, gt_iff_lt] at *)) <;> (first | omega | ((simp (disch := omega) only [bm32] at *) <;> omega)))) (by ((try (simp only [vp_in, Int32.toNatClampNeg, Int32.lt_iff_toInt_lt, Int32.le_iff_toInt_le, ← Int32.toInt_inj, Int32.toInt_add, Int32.toInt_sub, Int32.toInt_mul, Int32.reduceToInt, i32_neg1, Nat.reducePow, Int.reducePow, ne_eq, ge_iff_le, gt_iff_lt] at *)) <;> (first | omega | ((simp (disch := omega) only [bm32] at *) <;> omega)))) (by omega) h
      generalize F_Co_write cs fu d M A.co ((σ.2.2.1) 9 n) (lv + 1) = r1 at w1 e1 ⊢
      have ha1 := ha.ext e1.ext (by decide)
      have q5 : cI r1 a 5 = (σ.2.2.1) 10 n := ha1.2 5 (by decide)
      rw [q5]
      obtain ⟨sw2, l2, k2, g2, w2, e2, h2, h2', lo2, cd2⟩ := ih r1 l1 k1 _ ((σ.2.2.1) 10 n) (lv + 1) g1 A10.n A10.x A10.d (by ((try (simp only [vp_in, Int32.toNatClampNeg, Int32.lt_iff_toInt_lt, Int32.le_iff_toInt_le, ← Int32.toInt_inj, Int32.toInt_add, Int32.toInt_sub, Int32.toInt_mul, Int32.reduceToInt, i32_neg1, Nat.reducePow, Int.reducePow, ne_eq, ge_iff_le, gt_iff_lt] at *)) <;> (first | omega | ((simp (disch := omega) only [bm32] at *) <;> omega)))) (by ((try (simp only [vp_in, Int32.toNatClampNeg, Int32.lt_iff_toInt_lt, Int32.le_iff_toInt_le, ← Int32.toInt_inj, Int32.toInt_add, Int32.toInt_sub, Int32.toInt_mul, Int32.reduceToInt, i32_neg1, Nat.reducePow, Int.reducePow, ne_eq, ge_iff_le, gt_iff_lt] at *)) <;> (first | omega | ((simp (disch := omega) only [bm32] at *) <;> omega)))) (by omega) w1
      generalize F_Co_write cs fu d r1 A.co ((σ.2.2.1) 10 n) (lv + 1) = r2 at w2 e2 ⊢
      obtain ⟨s3, v3, k3, w3, e3⟩ := co_addG w2 (x1 := 12) (x2 := 0) (by omega)
      exact ⟨⟨b1, b2, sat, b3, b3, b1, sw, ⟨a, rfl, ha1.1⟩, w1.wk.lay.co_0.1, sw2, w2.wk.lay.co_0.1, s3, trivial⟩, l2 + 1, k3, _, w3, (e1.trans h.wk.lay.mok e2).trans h.wk.lay.mok e3, by omega, by omega, fun i hi => by rw [ad_lo (by omega), lo2 i (by omega), lo1 i hi], Cd.k10 c10 ⟨l1, l2, cd1.cong (fun i z1 z2 => by rw [ad_lo (by omega), lo2 i z2]), cd2.cong (fun i z1 z2 => ad_lo z2), ad_op, rfl⟩⟩
    simp only [if_neg (fun z => c10 (kd10.mp z))]
    by_cases c11 : ((σ.2.2.1) 5 n).toInt = 11
    · simp only [if_pos (kd11.mpr c11), q4]
      obtain ⟨A9, e9⟩ := pA (by omega)
      have nz := csz_nn X.nok hn (by omega)
      rw [e9, nz] at s2
      have v9 := A9.v
      have d9 := A9.d1
      have t9 := A9.s1
      obtain ⟨sw, l1, k1, g1, w1, e1, h1, h1', lo1, cd1⟩ := ih M l k _ ((σ.2.2.1) 9 n) (lv + 1) g A9.n A9.x A9.d (by ((try (simp only [vp_in, Int32.toNatClampNeg, Int32.lt_iff_toInt_lt, Int32.le_iff_toInt_le, ← Int32.toInt_inj, Int32.toInt_add, Int32.toInt_sub, Int32.toInt_mul, Int32.reduceToInt, i32_neg1, Nat.reducePow, Int.reducePow, ne_eq, ge_iff_le, gt_iff_lt] at *)) <;> (first | omega | ((simp (disch := omega) only [bm32] at *) <;> omega)))) (by ((try (simp only [vp_in, Int32.toNatClampNeg, Int32.lt_iff_toInt_lt, Int32.le_iff_toInt_le, ← Int32.toInt_inj, Int32.toInt_add, Int32.toInt_sub, Int32.toInt_mul, Int32.reduceToInt, i32_neg1, Nat.reducePow, Int.reducePow, ne_eq, ge_iff_le, gt_iff_lt] at *)) <;> (first | omega | ((simp (disch := omega) only [bm32] at *) <;> omega)))) (by omega) h
      generalize F_Co_write cs fu d M A.co ((σ.2.2.1) 9 n) (lv + 1) = r1 at w1 e1 ⊢
      have ha1 := ha.ext e1.ext (by decide)
      have qv : cI r1 a 1 = (σ.2.2.1) 6 n := by
        rw [show cI r1 a 1 = valOf (σ.2.2.1) n from ha1.2 1 (by decide)]
        unfold valOf
        rw [if_pos (by omega)]
      obtain ⟨s3, v3, k3, w3, e3⟩ := co_addG w1 (x1 := 13) (x2 := cI r1 a 1) (by omega)
      refine ⟨⟨b1, b2, sat, b3, b3, b1, sw, ⟨a, rfl, ha1.1⟩, w1.wk.lay.co_0.1, s3, trivial⟩, l1 + 1, k3, _, w3, e1.trans h.wk.lay.mok e3, by omega, by omega, fun i hi => by rw [ad_lo (by omega), lo1 i hi], Cd.k11 c11 ⟨l1, cd1.cong (fun i z1 z2 => ad_lo z2), ad_op, ?_, rfl⟩⟩
      rw [ad_fd]
      exact qv
    simp only [if_neg (fun z => c11 (kd11.mp z))]
    obtain ⟨s, v, k1, w1, e1⟩ := co_addG h (x1 := 1) (x2 := cI M a 1) (by omega)
    refine ⟨⟨b1, b2, sat, b3, b3, b1, s, trivial⟩, l + 1, k1, _, w1, e1, by omega, by omega, fun i hi => ad_lo hi, Cd.k0 c3 c4 c5 c6 c7 c8 c9 c10 c11 ⟨ad_op, ?_, rfl⟩⟩
    rw [ad_fd]
    exact ha.2 1 (by decide)
/-- the code of a checked program -/
theorem co_compileG (X : Ctx σ N C R T) (hf : 200 ≤ fu) (h : Wg cs lim A σ M N C F l k g) {x : Int32} {m : Nat} (hm : m < N) (hx : x.toInt = m) (hd : Dp σ m ≤ 40) (hs : Sz σ m ≤ 400) : ∃ l' k' g', Wg cs lim A σ (F_Co_compile cs fu M A.co x) N C F (l' + 1) k' g' ∧ Cd (σ.2.2.1) g' 42 m 0 l' ∧ cOp g' l' = 0 ∧ l' ≤ 1700 := by
  unfold F_Co_compile
  simp only [mbind_eq]
  obtain ⟨h, hg⟩ := h
  have o := h.lay.co_0.1
  have e0 : Ext [(7, 2), (2, 0)] [(2, 0)] true M (cP 7 M A.co 2 (.int 0)) := (Ext.rf h.lay.mok).putI 2 o (by decide) (by decide)
  have e0' : Ext [(7, 2)] [] false M (cP 7 M A.co 2 (.int 0)) := (Ext.rf h.lay.mok).putI 2 o (by decide) (by decide)
  have w0 : Wg cs lim A σ (cP 7 M A.co 2 (.int 0)) N C F 0 k g := ⟨⟨h.lay.ext e0 (by decide), h.ns.ext h.lay e0 (by decide) (by decide) (by decide), ⟨g, hg.ext e0' (by decide) (by decide)⟩, by rw [cI_put o (by decide)]; rfl, h.kb, h.rm⟩, hg.ext e0' (by decide) (by decide)⟩
  generalize cP 7 M A.co 2 (.int 0) = M0 at w0 ⊢
  obtain ⟨s1, l1, k1, g1, w1, e1, h1, h1', lo1, cd1⟩ := co_writeG (cs := cs) (lim := lim) (A := A) (F := F) X hf 42 M0 0 k m x 1 g hm hx (by omega) (by decide) (by show (1 : Int) + _ ≤ _; omega) (by omega) w0
  generalize F_Co_write cs fu 42 M0 A.co x 1 = M1 at w1 e1 ⊢
  obtain ⟨s2, v2, k2, w2, e2⟩ := co_addG w1 (x1 := 0) (x2 := 0) (by omega)
  exact ⟨l1, k2, _, w2, cd1.cong (fun i _ z => ad_lo z), ad_op, by omega⟩
end
end
