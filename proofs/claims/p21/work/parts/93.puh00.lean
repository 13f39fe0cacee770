-- pure rows: HA,HB
section
/-! pure rows: what a written program is -/
def cOp (g : Nat → Int32) (r : Nat) : Int := (g (r * 5)).toInt
def cFd (g : Nat → Int32) (r i : Nat) : Int32 := g (r * 5 + i)
/-- the code from row l to row l' is that of the node n (whose parts lie less than d deep) -/
def Cd (A : Nat → Nat → Int32) (g : Nat → Int32) : Nat → Nat → Nat → Nat → Prop
  | 0, _, _, _ => False
  | d + 1, n, l, l' =>
    if (A 5 n).toInt = 3 then cOp g l = 2 ∧ cFd g l 1 = A 6 n ∧ l' = l + 1
    else if (A 5 n).toInt = 4 then ∃ m m', Cd A g d (A 9 n).toInt.toNat l m ∧ cOp g m = 3 ∧ cFd g m 1 = A 6 n ∧ Cd A g d (A 10 n).toInt.toNat (m + 1) m' ∧ cOp g m' = 4 ∧ cFd g m' 1 = A 6 n ∧ l' = m' + 1
    else if (A 5 n).toInt = 5 then ∃ m m', cOp g l = 8 ∧ cFd g l 1 = A 7 n ∧ cFd g l 2 = A 6 n ∧ (cFd g l 3).toInt = (m + 1 : Nat) ∧ Cd A g d (A 9 n).toInt.toNat (l + 1) m ∧ cOp g m = 0 ∧ cOp g (m + 1) = 3 ∧ cFd g (m + 1) 1 = A 6 n ∧ Cd A g d (A 10 n).toInt.toNat (m + 2) m' ∧ cOp g m' = 4 ∧ cFd g m' 1 = A 6 n ∧ l' = m' + 1
    else if (A 5 n).toInt = 7 then ∃ m, cOp g l = 8 ∧ cFd g l 1 = A 6 n ∧ cFd g l 2 = -1 ∧ (cFd g l 3).toInt = (m + 1 : Nat) ∧ Cd A g d (A 9 n).toInt.toNat (l + 1) m ∧ cOp g m = 0 ∧ l' = m + 1
    else if (A 5 n).toInt = 6 then ∃ m m', Cd A g d (A 9 n).toInt.toNat l m ∧ cOp g m = 6 ∧ (cFd g m 1).toInt = (m' + 1 : Nat) ∧ Cd A g d (A 10 n).toInt.toNat (m + 1) m' ∧ cOp g m' = 5 ∧ (cFd g m' 1).toInt = (l' : Nat) ∧ Cd A g d (A 11 n).toInt.toNat (m' + 1) l'
    else if (A 5 n).toInt = 8 then ∃ m m', cOp g l = 9 ∧ cFd g l 3 = A 6 n ∧ cFd g l 4 = A 15 n ∧ Cd A g d (A 9 n).toInt.toNat (l + 1 + (A 15 n).toInt.toNat) m ∧ cOp g m = 11 ∧ (cFd g l 2).toInt = (m + 1 : Nat) ∧ Cd A g d (A 10 n).toInt.toNat (m + 1) m' ∧ cOp g m' = 0 ∧ m' < l' ∧ (cFd g l 1).toInt = (l' : Nat) ∧
      ∀ j, j < (A 15 n).toInt.toNat → cOp g (l + 1 + j) = 10 ∧ cFd g (l + 1 + j) 1 = A 16 ((A 14 n).toInt.toNat + j) ∧ cFd g (l + 1 + j) 3 = A 17 ((A 14 n).toInt.toNat + j) ∧ cFd g (l + 1 + j) 4 = A 18 ((A 14 n).toInt.toNat + j) ∧ ∃ b b' : Nat, (cFd g (l + 1 + j) 2).toInt = b ∧ m' < b ∧ Cd A g d (A 19 ((A 14 n).toInt.toNat + j)).toInt.toNat b b' ∧ cOp g b' = 0 ∧ b' < l'
    else if (A 5 n).toInt = 9 then ∃ m m', Cd A g d (A 9 n).toInt.toNat l m ∧ Cd A g d (A 10 n).toInt.toNat m m' ∧ cOp g m' = 7 ∧ cFd g m' 1 = A 6 n ∧ l' = m' + 1
    else if (A 5 n).toInt = 10 then ∃ m m', Cd A g d (A 9 n).toInt.toNat l m ∧ Cd A g d (A 10 n).toInt.toNat m m' ∧ cOp g m' = 12 ∧ l' = m' + 1
    else if (A 5 n).toInt = 11 then ∃ m, Cd A g d (A 9 n).toInt.toNat l m ∧ cOp g m = 13 ∧ cFd g m 1 = A 6 n ∧ l' = m + 1
    else cOp g l = 1 ∧ cFd g l 1 = valOf A n ∧ l' = l + 1
section
variable {A : Nat → Nat → Int32} {g g' : Nat → Int32}
theorem Cd.lt : ∀ {d n l l' : Nat}, Cd A g d n l l' → l < l' := by
  intro d
  induction d with
  | zero => intro n l l' h; exact h.elim
  | succ d ih =>
    intro n l l' h
    unfold Cd at h
    split at h
    · omega
    split at h
    · obtain ⟨m, m', h1, -, -, h2, -, -, h3⟩ := h
      have := ih h1
      have := ih h2
      omega
    split at h
    · obtain ⟨m, m', -, -, -, -, h1, -, -, -, h2, -, -, h3⟩ := h
      have := ih h1
      have := ih h2
      omega
    split at h
    · obtain ⟨m, -, -, -, -, h1, -, h3⟩ := h
      have := ih h1
      omega
    split at h
    · obtain ⟨m, m', h1, -, -, h2, -, -, h3⟩ := h
      have := ih h1
      have := ih h2
      have := ih h3
      omega
    split at h
    · obtain ⟨m, m', -, -, -, h1, -, -, h2, -, h3, -⟩ := h
      have := ih h1
      have := ih h2
      omega
    split at h
    · obtain ⟨m, m', h1, h2, -, -, h3⟩ := h
      have := ih h1
      have := ih h2
      omega
    split at h
    · obtain ⟨m, m', h1, h2, -, h3⟩ := h
      have := ih h1
      have := ih h2
      omega
    split at h
    · obtain ⟨m, h1, -, -, h3⟩ := h
      have := ih h1
      omega
    · omega
theorem cOp_c {l l' r : Nat} (e : ∀ i, l * 5 ≤ i → i < l' * 5 → g' i = g i) (h1 : l ≤ r) (h2 : r < l') : cOp g' r = cOp g r := by
  unfold cOp
  rw [e (r * 5) (by omega) (by omega)]
theorem cFd_c {l l' r i : Nat} (e : ∀ i, l * 5 ≤ i → i < l' * 5 → g' i = g i) (h1 : l ≤ r) (h2 : r < l') (hi : i < 5) : cFd g' r i = cFd g r i := by
  unfold cFd
  rw [e (r * 5 + i) (by omega) (by omega)]
/-- only the rows between say it -/
theorem Cd.cong : ∀ {d n l l' : Nat}, Cd A g d n l l' → (∀ i, l * 5 ≤ i → i < l' * 5 → g' i = g i) → Cd A g' d n l l' := by
  intro d
  induction d with
  | zero => intro n l l' h _; exact h.elim
  | succ d ih =>
    intro n l l' h e
    have hl := h.lt
    unfold Cd at h ⊢
    split at h
    · rename_i c
      rw [if_pos c, cOp_c e (by omega) (by omega), cFd_c e (by omega) (by omega) (by omega)]
      exact h
    rename_i c3
    rw [if_neg c3]
    split at h
    · rename_i c
      rw [if_pos c]
      obtain ⟨m, m', h1, h2, h3, h4, h5, h6, h7⟩ := h
      have l1 := h1.lt
      have l4 := h4.lt
      exact ⟨m, m', ih h1 (fun i a b => e i (by omega) (by omega)), by rw [cOp_c e (by omega) (by omega)]; exact h2, by rw [cFd_c e (by omega) (by omega) (by omega)]; exact h3, ih h4 (fun i a b => e i (by omega) (by omega)), by rw [cOp_c e (by omega) (by omega)]; exact h5, by rw [cFd_c e (by omega) (by omega) (by omega)]; exact h6, h7⟩
    rename_i c4
    rw [if_neg c4]
    split at h
    · rename_i c
      rw [if_pos c]
      obtain ⟨m, m', h1, h2, h3, h4, h5, h6, h7, h8, h9, h10, h11, h12⟩ := h
      have l5 := h5.lt
      have l9 := h9.lt
      exact ⟨m, m', by rw [cOp_c e (by omega) (by omega)]; exact h1, by rw [cFd_c e (by omega) (by omega) (by omega)]; exact h2, by rw [cFd_c e (by omega) (by omega) (by omega)]; exact h3, by rw [cFd_c e (by omega) (by omega) (by omega)]; exact h4, ih h5 (fun i a b => e i (by omega) (by omega)), by rw [cOp_c e (by omega) (by omega)]; exact h6, by rw [cOp_c e (by omega) (by omega)]; exact h7, by rw [cFd_c e (by omega) (by omega) (by omega)]; exact h8, ih h9 (fun i a b => e i (by omega) (by omega)), by rw [cOp_c e (by omega) (by omega)]; exact h10, by rw [cFd_c e (by omega) (by omega) (by omega)]; exact h11, h12⟩
    rename_i c5
    rw [if_neg c5]
    split at h
    · rename_i c
      rw [if_pos c]
      obtain ⟨m, h1, h2, h3, h4, h5, h6, h7⟩ := h
      have l5 := h5.lt
      exact ⟨m, by rw [cOp_c e (by omega) (by omega)]; exact h1, by rw [cFd_c e (by omega) (by omega) (by omega)]; exact h2, by rw [cFd_c e (by omega) (by omega) (by omega)]; exact h3, by rw [cFd_c e (by omega) (by omega) (by omega)]; exact h4, ih h5 (fun i a b => e i (by omega) (by omega)), by rw [cOp_c e (by omega) (by omega)]; exact h6, h7⟩
    rename_i c7
    rw [if_neg c7]
    split at h
    · rename_i c
      rw [if_pos c]
      obtain ⟨m, m', h1, h2, h3, h4, h5, h6, h7⟩ := h
      have l1 := h1.lt
      have l4 := h4.lt
      have l7 := h7.lt
      exact ⟨m, m', ih h1 (fun i a b => e i (by omega) (by omega)), by rw [cOp_c e (by omega) (by omega)]; exact h2, by rw [cFd_c e (by omega) (by omega) (by omega)]; exact h3, ih h4 (fun i a b => e i (by omega) (by omega)), by rw [cOp_c e (by omega) (by omega)]; exact h5, by rw [cFd_c e (by omega) (by omega) (by omega)]; exact h6, ih h7 (fun i a b => e i (by omega) (by omega))⟩
    rename_i c6
    rw [if_neg c6]
    split at h
    · rename_i c
      rw [if_pos c]
      obtain ⟨m, m', h1, h2, h3, h4, h5, h6, h7, h8, h9, h10, h11⟩ := h
      have l4 := h4.lt
      have l7 := h7.lt
      refine ⟨m, m', by rw [cOp_c e (by omega) (by omega)]; exact h1, by rw [cFd_c e (by omega) (by omega) (by omega)]; exact h2, by rw [cFd_c e (by omega) (by omega) (by omega)]; exact h3, ih h4 (fun i a b => e i (by omega) (by omega)), by rw [cOp_c e (by omega) (by omega)]; exact h5, by rw [cFd_c e (by omega) (by omega) (by omega)]; exact h6, ih h7 (fun i a b => e i (by omega) (by omega)), by rw [cOp_c e (by omega) (by omega)]; exact h8, h9, by rw [cFd_c e (by omega) (by omega) (by omega)]; exact h10, fun j hj => ?_⟩
      obtain ⟨k1, k2, k3, k4, b, b', k5, k6, k7, k8, k9⟩ := h11 j hj
      have l8 := k7.lt
      exact ⟨by rw [cOp_c e (by omega) (by omega)]; exact k1, by rw [cFd_c e (by omega) (by omega) (by omega)]; exact k2, by rw [cFd_c e (by omega) (by omega) (by omega)]; exact k3, by rw [cFd_c e (by omega) (by omega) (by omega)]; exact k4, b, b', by rw [cFd_c e (by omega) (by omega) (by omega)]; exact k5, k6, ih k7 (fun i a b => e i (by omega) (by omega)), by rw [cOp_c e (by omega) (by omega)]; exact k8, k9⟩
    rename_i c8
    rw [if_neg c8]
    split at h
    · rename_i c
      rw [if_pos c]
      obtain ⟨m, m', h1, h2, h3, h4, h5⟩ := h
      have l1 := h1.lt
      have l2 := h2.lt
      exact ⟨m, m', ih h1 (fun i a b => e i (by omega) (by omega)), ih h2 (fun i a b => e i (by omega) (by omega)), by rw [cOp_c e (by omega) (by omega)]; exact h3, by rw [cFd_c e (by omega) (by omega) (by omega)]; exact h4, h5⟩
    rename_i c9
    rw [if_neg c9]
    split at h
    · rename_i c
      rw [if_pos c]
      obtain ⟨m, m', h1, h2, h3, h5⟩ := h
      have l1 := h1.lt
      have l2 := h2.lt
      exact ⟨m, m', ih h1 (fun i a b => e i (by omega) (by omega)), ih h2 (fun i a b => e i (by omega) (by omega)), by rw [cOp_c e (by omega) (by omega)]; exact h3, h5⟩
    rename_i c10
    rw [if_neg c10]
    split at h
    · rename_i c
      rw [if_pos c]
      obtain ⟨m, h1, h3, h4, h5⟩ := h
      have l1 := h1.lt
      exact ⟨m, ih h1 (fun i a b => e i (by omega) (by omega)), by rw [cOp_c e (by omega) (by omega)]; exact h3, by rw [cFd_c e (by omega) (by omega) (by omega)]; exact h4, h5⟩
    · rename_i c11
      rw [if_neg c11, cOp_c e (by omega) (by omega), cFd_c e (by omega) (by omega) (by omega)]
      exact h
end
/-- as Wk, with what the code's cells hold -/
def Wg (cs : Nat → ClassId) (lim : Nat × Nat) (A : Ad) (σ : mSt) (M : gMem) (N C F l k : Nat) (g : Nat → Int32) : Prop := (Wk cs lim A σ M N C F l k) ∧ (CeIs cs M A.c4 g k)
theorem Wg.wk {cs : Nat → ClassId} {lim : Nat × Nat} {A : Ad} {σ : mSt} {M : gMem} {N C F l k : Nat} {g : Nat → Int32} (self : Wg cs lim A σ M N C F l k g) : Wk cs lim A σ M N C F l k := self.1
theorem Wg.ce {cs : Nat → ClassId} {lim : Nat × Nat} {A : Ad} {σ : mSt} {M : gMem} {N C F l k : Nat} {g : Nat → Int32} (self : Wg cs lim A σ M N C F l k g) : CeIs cs M A.c4 g k := self.2
section
variable {cs : Nat → ClassId} {lim : Nat × Nat} {A : Ad} {σ : mSt} {N C R F T : Nat} {M M1 M2 : gMem} {l k k1 k2 : Nat} {g : Nat → Int32}
theorem co_putG (h : Wg cs lim A σ M N C F l k g) {x v : Int32} {i : Nat} (hx : x.toInt = i) (hi : i < 8005) : S_Ce_put cs lim M A.c4 x v ∧ ∃ k', Wg cs lim A σ (F_Ce_put cs M A.c4 x v) N C F l k' (upd g i v) ∧ We cs A M (F_Ce_put cs M A.c4 x v) k k' ∧ cI (F_Ce_put cs M A.c4 x v) A.co 2 = cI M A.co 2 := by
  obtain ⟨h, hg⟩ := h
  obtain ⟨r1, r2⟩ := h.rm
  have hk := h.kb
  obtain ⟨s, k', p⟩ := ce_put (lim := lim) h.lay.mok h.lay.bnd hg x v hx (by omega) (by omega) (by omega)
  obtain ⟨p1, p2, p3, p4⟩ := p.pot
  have e : Ext [(7, 2), (2, 0)] [(2, 0)] true M (F_Ce_put cs M A.c4 x v) := p.ext.mono (by decide) (by decide) (by decide)
  have ec : cI (F_Ce_put cs M A.c4 x v) A.co 2 = cI M A.co 2 := p.ext.xcI h.lay.co_0.1 (by decide)
  exact ⟨s, k', ⟨⟨h.lay.ext e (by decide), h.ns.ext h.lay e (by decide) (by decide) (by decide), ⟨_, p.is⟩, by rw [ec]; exact h.len, by omega, by omega, by omega⟩, p.is⟩, ⟨e, fun c g' j hc hg' => p.oth c g' j hc hg', p1, p2, p3⟩, ec⟩
theorem co_fillG (h : Wg cs lim A σ M N C F l k g) {x1 x2 x3 : Int32} {r i : Nat} (h1 : x1.toInt = r) (hr : r ≤ 1600) (h2 : x2.toInt = i) (hi : i < 5) : S_Co_fill cs lim M A.co x1 x2 x3 ∧ ∃ k', Wg cs lim A σ (F_Co_fill cs M A.co x1 x2 x3) N C F l k' (upd g (r * 5 + i) x3) ∧ We cs A M (F_Co_fill cs M A.co x1 x2 x3) k k' := by
  have hq := h.wk.lay.co_1
  obtain ⟨s, k', w, e, -⟩ := co_putG h (x := x1 * 5 + x2) (v := x3) (i := r * 5 + i) (by ((try (simp only [vp_in, Int32.toNatClampNeg, Int32.lt_iff_toInt_lt, Int32.le_iff_toInt_le, ← Int32.toInt_inj, Int32.toInt_add, Int32.toInt_sub, Int32.toInt_mul, Int32.reduceToInt, i32_neg1, Nat.reducePow, Int.reducePow, ne_eq, ge_iff_le, gt_iff_lt] at *)) <;> (first | omega | ((simp (disch := omega) only [bm32] at *) <;> omega)))) (by omega)
  unfold S_Co_fill F_Co_fill
  simp only [mbind_eq, hq.2, Option.getD_some]
  exact ⟨⟨hq.1, ⟨_, rfl, h.wk.lay.objs (2, A.c4) (by simp [si_1, si_2, sl_1, sl_2, sl_3, ai_1, ai_2, ai_3, ai_4, al_1, al_2, al_3, al_4, cp_1, cp_2, cp_3, cp_4, OBJS])⟩, s, trivial⟩, k', w, e⟩
theorem co_addG (h : Wg cs lim A σ M N C F l k g) (hl : l ≤ 1600) {x1 x2 : Int32} : S_Co_add cs lim M A.co x1 x2 ∧ (F_Co_add cs M A.co x1 x2).1.toInt = l ∧ ∃ k', Wg cs lim A σ (F_Co_add cs M A.co x1 x2).2 N C F (l + 1) k' (upd (upd g (l * 5) x1) (l * 5 + 1) x2) ∧ We cs A M (F_Co_add cs M A.co x1 x2).2 k k' := by
  have hq := h.wk.lay.co_1
  have hlen := h.wk.len
  obtain ⟨s, k1, w1, e1, c1⟩ := co_putG h (x := cI M A.co 2 * 5) (v := x1) (i := l * 5) (by ((try (simp only [vp_in, Int32.toNatClampNeg, Int32.lt_iff_toInt_lt, Int32.le_iff_toInt_le, ← Int32.toInt_inj, Int32.toInt_add, Int32.toInt_sub, Int32.toInt_mul, Int32.reduceToInt, i32_neg1, Nat.reducePow, Int.reducePow, ne_eq, ge_iff_le, gt_iff_lt] at *)) <;> (first | omega | ((simp (disch := omega) only [bm32] at *) <;> omega)))) (by omega)
  unfold S_Co_add F_Co_add
  simp only [mbind_eq, hq.2, Option.getD_some]
  generalize F_Ce_put cs M A.c4 (cI M A.co 2 * 5) x1 = M1 at w1 e1 c1 ⊢
  have hq1 := w1.wk.lay.co_1
  simp only [hq1.2, Option.getD_some]
  obtain ⟨s2, k2, w2, e2, c2⟩ := co_putG w1 (x := cI M A.co 2 * 5 + 1) (v := x2) (i := l * 5 + 1) (by ((try (simp only [vp_in, Int32.toNatClampNeg, Int32.lt_iff_toInt_lt, Int32.le_iff_toInt_le, ← Int32.toInt_inj, Int32.toInt_add, Int32.toInt_sub, Int32.toInt_mul, Int32.reduceToInt, i32_neg1, Nat.reducePow, Int.reducePow, ne_eq, ge_iff_le, gt_iff_lt] at *)) <;> (first | omega | ((simp (disch := omega) only [bm32] at *) <;> omega)))) (by omega)
  generalize F_Ce_put cs M1 A.c4 (cI M A.co 2 * 5 + 1) x2 = M2 at w2 e2 c2 ⊢
  obtain ⟨w2, hg2⟩ := w2
  have o2 := w2.lay.co_0.1
  have e3 : Ext [(7, 2), (2, 0)] [(2, 0)] true M2 (cP 7 M2 A.co 2 (.int (cI M2 A.co 2 + 1))) := (Ext.rf w2.lay.mok).putI 2 o2 (by decide) (by decide)
  have e3' : Ext [(7, 2)] [] false M2 (cP 7 M2 A.co 2 (.int (cI M2 A.co 2 + 1))) := (Ext.rf w2.lay.mok).putI 2 o2 (by decide) (by decide)
  have len2 := w2.len
  refine ⟨⟨hq.1, hq.1, ⟨_, rfl, h.wk.lay.objs (2, A.c4) (by simp [si_1, si_2, sl_1, sl_2, sl_3, ai_1, ai_2, ai_3, ai_4, al_1, al_2, al_3, al_4, cp_1, cp_2, cp_3, cp_4, OBJS])⟩, s, hq1.1, ⟨_, rfl, w1.wk.lay.objs (2, A.c4) (by simp [si_1, si_2, sl_1, sl_2, sl_3, ai_1, ai_2, ai_3, ai_4, al_1, al_2, al_3, al_4, cp_1, cp_2, cp_3, cp_4, OBJS])⟩, s2, o2, o2, trivial⟩, hlen, k2, ⟨⟨w2.lay.ext e3 (by decide), w2.ns.ext w2.lay e3 (by decide) (by decide) (by decide), ⟨_, hg2.ext e3' (by decide) (by decide)⟩, ?_, w2.kb, w2.rm⟩, hg2.ext e3' (by decide) (by decide)⟩, ?_⟩
  · rw [cI_put o2 (by decide)]
    ((try (simp only [vp_in, Int32.toNatClampNeg, Int32.lt_iff_toInt_lt, Int32.le_iff_toInt_le, ← Int32.toInt_inj, Int32.toInt_add, Int32.toInt_sub, Int32.toInt_mul, Int32.reduceToInt, i32_neg1, Nat.reducePow, Int.reducePow, ne_eq, ge_iff_le, gt_iff_lt] at *)) <;> (first | omega | ((simp (disch := omega) only [bm32] at *) <;> omega)))
  · exact (e1.trans h.wk.lay.mok e2).trans h.wk.lay.mok ⟨e3, fun c g j _ hg => hg.ext e3' (by decide) (by decide), Pot.light rfl⟩
end
end
section
/-! pure rows: the parts of a program, as they are written -/
section
variable {g g' : Nat → Int32} {l L r i : Nat} {a b : Int32}
theorem ad_op : cOp (upd (upd g (l * 5) a) (l * 5 + 1) b) l = a.toInt := by
  unfold cOp
  rw [upd_at, if_neg (by omega), upd_at, if_pos rfl]
theorem ad_fd : cFd (upd (upd g (l * 5) a) (l * 5 + 1) b) l 1 = b := by
  unfold cFd
  rw [upd_at, if_pos rfl]
theorem ad_lo (h : i < l * 5) : upd (upd g (l * 5) a) (l * 5 + 1) b i = g i := by
  rw [upd_at, if_neg (by omega), upd_at, if_neg (by omega)]
theorem kp_op (h : ∀ i, i < L * 5 → g' i = g i) (hr : r < L) : cOp g' r = cOp g r := by
  unfold cOp
  rw [h _ (by omega)]
theorem kp_fd (h : ∀ i, i < L * 5 → g' i = g i) (hr : r < L) (hi : i < 5) : cFd g' r i = cFd g r i := by
  unfold cFd
  rw [h _ (by omega)]
theorem fl_op {x : Int32} (hi : 0 < i) (hi5 : i < 5) : cOp (upd g (r * 5 + i) x) L = cOp g L := by
  unfold cOp
  rw [upd_at, if_neg (by omega)]
theorem fl_fd {x : Int32} : cFd (upd g (r * 5 + i) x) r i = x := by
  unfold cFd
  rw [upd_at, if_pos rfl]
theorem fl_ne {x : Int32} {j : Nat} (hi : i < 5) (hj : j < 5) (h : L ≠ r ∨ j ≠ i) : cFd (upd g (r * 5 + i) x) L j = cFd g L j := by
  unfold cFd
  rw [upd_at, if_neg (by omega)]
end
def HWG (cs : Nat → ClassId) (lim : Nat × Nat) (A : Ad) (σ : mSt) (N C F : Nat) (Lf : gMem → Nat → Int32 → Int32 → gMem) (Ls : gMem → Nat → Int32 → Int32 → Prop) (d : Nat) : Prop :=
  ∀ (M : gMem) (l k m : Nat) (x lv : Int32) (g : Nat → Int32), m < N → x.toInt = m → Dp σ m ≤ d → 1 ≤ lv.toInt → lv.toInt + Dp σ m ≤ 41 → (l : Int) + 4 * Sz σ m ≤ 1602 → Wg cs lim A σ M N C F l k g → Ls M A.co x lv ∧ ∃ l' k' g', Wg cs lim A σ (Lf M A.co x lv) N C F l' k' g' ∧ We cs A M (Lf M A.co x lv) k k' ∧ l ≤ l' ∧ (l' : Int) ≤ l + (4 * Sz σ m - 2) ∧ (∀ i, i < l * 5 → g' i = g i) ∧ Cd σ.2.2.1 g' d m l l'
section
variable {cs : Nat → ClassId} {lim : Nat × Nat} {A : Ad} {σ : mSt} {N C R F T : Nat} {M : gMem} {l k : Nat} {Lf : gMem → Nat → Int32 → Int32 → gMem} {Ls : gMem → Nat → Int32 → Int32 → Prop} {d p fu : Nat} {x1 x2 x3 lv : Int32} {g : Nat → Int32}
theorem co_scopeG (hW : HWG cs lim A σ N C F Lf Ls d) (hp : p < N) (hx : x2.toInt = p) (hd : Dp σ p ≤ d) (hv : 1 ≤ lv.toInt) (hv2 : lv.toInt + 1 + Dp σ p ≤ 41) (dp1 : 1 ≤ Dp σ p) (sz1 : 1 ≤ Sz σ p) (hl : (l : Int) + 4 * Sz σ p ≤ 1600) (h : Wg cs lim A σ M N C F l k g) : S_Co_writeScope cs lim fu Lf Ls M A.co x1 x2 lv ∧ ∃ m k' g', Wg cs lim A σ (F_Co_writeScope cs fu Lf M A.co x1 x2 lv) N C F (m + 1) k' g' ∧ We cs A M (F_Co_writeScope cs fu Lf M A.co x1 x2 lv) k k' ∧ l ≤ m ∧ (m : Int) ≤ l + (4 * Sz σ p - 1) ∧ (∀ i, i < l * 5 → g' i = g i) ∧ cOp g' l = 3 ∧ cFd g' l 1 = x1 ∧ Cd σ.2.2.1 g' d p (l + 1) m ∧ cOp g' m = 4 ∧ cFd g' m 1 = x1 := by
  obtain ⟨s1, v1, k1, w1, e1⟩ := co_addG h (x1 := 3) (x2 := x1) (by omega)
  unfold S_Co_writeScope F_Co_writeScope
  simp only [mbind_eq]
  generalize F_Co_add cs M A.co 3 x1 = r1 at v1 w1 e1 ⊢
  obtain ⟨s2, l2, k2, g2, w2, e2, h2, h2', lo2, cd2⟩ := hW r1.2 (l + 1) k1 p x2 (lv + 1) _ hp hx hd (by ((try (simp only [vp_in, Int32.toNatClampNeg, Int32.lt_iff_toInt_lt, Int32.le_iff_toInt_le, ← Int32.toInt_inj, Int32.toInt_add, Int32.toInt_sub, Int32.toInt_mul, Int32.reduceToInt, i32_neg1, Nat.reducePow, Int.reducePow, ne_eq, ge_iff_le, gt_iff_lt] at *)) <;> (first | omega | ((simp (disch := omega) only [bm32] at *) <;> omega)))) (by ((try (simp only [vp_in, Int32.toNatClampNeg, Int32.lt_iff_toInt_lt, Int32.le_iff_toInt_le, ← Int32.toInt_inj, Int32.toInt_add, Int32.toInt_sub, Int32.toInt_mul, Int32.reduceToInt, i32_neg1, Nat.reducePow, Int.reducePow, ne_eq, ge_iff_le, gt_iff_lt] at *)) <;> (first | omega | ((simp (disch := omega) only [bm32] at *) <;> omega)))) (by omega) w1
  generalize Lf r1.2 A.co x2 (lv + 1) = r2 at w2 e2 ⊢
  obtain ⟨s3, v3, k3, w3, e3⟩ := co_addG w2 (x1 := 4) (x2 := x1) (by omega)
  generalize F_Co_add cs r2 A.co 4 x1 = r3 at v3 w3 e3 ⊢
  have lo3 : ∀ i, i < l2 * 5 → upd (upd g2 (l2 * 5) 4) (l2 * 5 + 1) x1 i = g2 i := fun i hi => ad_lo hi
  refine ⟨⟨h.wk.lay.co_0.1, s1, w1.wk.lay.co_0.1, s2, w2.wk.lay.co_0.1, s3, trivial⟩, l2, k3, _, w3, (e1.trans h.wk.lay.mok e2).trans h.wk.lay.mok e3, by omega, by omega, fun i hi => ?_, ?_, ?_, cd2.cong (fun i _ hi => lo3 i hi), ad_op, ad_fd⟩
  · rw [lo3 i (by omega), lo2 i (by omega), ad_lo hi]
  · rw [kp_op lo3 (by omega), kp_op lo2 (by omega), ad_op]; rfl
  · rw [kp_fd lo3 (by omega) (by omega), kp_fd lo2 (by omega) (by omega), ad_fd]
theorem co_bodyG (hW : HWG cs lim A σ N C F Lf Ls d) (hp : p < N) (hx : x1.toInt = p) (hd : Dp σ p ≤ d) (hv : 1 ≤ lv.toInt) (hv2 : lv.toInt + 1 + Dp σ p ≤ 41) (dp1 : 1 ≤ Dp σ p) (sz1 : 1 ≤ Sz σ p) (hl : (l : Int) + 4 * Sz σ p ≤ 1602) (h : Wg cs lim A σ M N C F l k g) : S_Co_writeBody cs lim fu Lf Ls M A.co x1 lv ∧ ∃ m k' g', Wg cs lim A σ (F_Co_writeBody cs fu Lf M A.co x1 lv) N C F (m + 1) k' g' ∧ We cs A M (F_Co_writeBody cs fu Lf M A.co x1 lv) k k' ∧ l ≤ m ∧ (m : Int) ≤ l + (4 * Sz σ p - 2) ∧ (∀ i, i < l * 5 → g' i = g i) ∧ Cd σ.2.2.1 g' d p l m ∧ cOp g' m = 0 := by
  unfold S_Co_writeBody F_Co_writeBody
  simp only [mbind_eq]
  obtain ⟨s2, l2, k2, g2, w2, e2, h2, h2', lo2, cd2⟩ := hW M l k p x1 (lv + 1) _ hp hx hd (by ((try (simp only [vp_in, Int32.toNatClampNeg, Int32.lt_iff_toInt_lt, Int32.le_iff_toInt_le, ← Int32.toInt_inj, Int32.toInt_add, Int32.toInt_sub, Int32.toInt_mul, Int32.reduceToInt, i32_neg1, Nat.reducePow, Int.reducePow, ne_eq, ge_iff_le, gt_iff_lt] at *)) <;> (first | omega | ((simp (disch := omega) only [bm32] at *) <;> omega)))) (by ((try (simp only [vp_in, Int32.toNatClampNeg, Int32.lt_iff_toInt_lt, Int32.le_iff_toInt_le, ← Int32.toInt_inj, Int32.toInt_add, Int32.toInt_sub, Int32.toInt_mul, Int32.reduceToInt, i32_neg1, Nat.reducePow, Int.reducePow, ne_eq, ge_iff_le, gt_iff_lt] at *)) <;> (first | omega | ((simp (disch := omega) only [bm32] at *) <;> omega)))) (by omega) h
  generalize Lf M A.co x1 (lv + 1) = r2 at w2 e2 ⊢
  obtain ⟨s3, v3, k3, w3, e3⟩ := co_addG w2 (x1 := 0) (x2 := 0) (by omega)
  generalize F_Co_add cs r2 A.co 0 0 = r3 at v3 w3 e3 ⊢
  have lo3 : ∀ i, i < l2 * 5 → upd (upd g2 (l2 * 5) 0) (l2 * 5 + 1) 0 i = g2 i := fun i hi => ad_lo hi
  exact ⟨⟨h.wk.lay.co_0.1, s2, w2.wk.lay.co_0.1, s3, trivial⟩, l2, k3, _, w3, e2.trans h.wk.lay.mok e3, by omega, by omega, fun i hi => by rw [lo3 i (by omega), lo2 i hi], cd2.cong (fun i _ hi => lo3 i hi), ad_op⟩
theorem co_functionG (hW : HWG cs lim A σ N C F Lf Ls d) {a : Nat} {v : Nat → Int32} (ha : NodeAt M a v) (hp : p < N) (hx : (v 4).toInt = p) (hd : Dp σ p ≤ d) (hv : 1 ≤ lv.toInt) (hv2 : lv.toInt + 1 + Dp σ p ≤ 41) (dp1 : 1 ≤ Dp σ p) (sz1 : 1 ≤ Sz σ p) (hl : (l : Int) + 4 * Sz σ p ≤ 1600) (h : Wg cs lim A σ M N C F l k g) : S_Co_writeFunction cs lim fu Lf Ls M A.co (some a) lv ∧ ∃ m k' g', Wg cs lim A σ (F_Co_writeFunction cs fu Lf M A.co (some a) lv) N C F (m + 1) k' g' ∧ We cs A M (F_Co_writeFunction cs fu Lf M A.co (some a) lv) k k' ∧ l ≤ m ∧ (m : Int) ≤ l + (4 * Sz σ p - 1) ∧ (∀ i, i < l * 5 → g' i = g i) ∧ cOp g' l = 8 ∧ cFd g' l 1 = v 2 ∧ cFd g' l 2 = v 3 ∧ (cFd g' l 3).toInt = (m + 1 : Nat) ∧ Cd σ.2.2.1 g' d p (l + 1) m ∧ cOp g' m = 0 := by
  unfold S_Co_writeFunction F_Co_writeFunction
  simp only [mbind_eq, Option.getD_some]
  obtain ⟨s1, v1, k1, w1, e1⟩ := co_addG h (x1 := 8) (x2 := cI M a 2) (by omega)
  generalize F_Co_add cs M A.co 8 (cI M a 2) = r1 at v1 w1 e1 ⊢
  have ha1 := ha.ext e1.ext (by decide)
  obtain ⟨s2, k2, w2, e2⟩ := co_fillG w1 (x1 := r1.1) (x2 := 2) (x3 := cI r1.2 a 3) v1 (by omega) (i := 2) rfl (by decide)
  have q2 : cI M a 2 = v 2 := ha.2 2 (by decide)
  have q3 : cI r1.2 a 3 = v 3 := ha1.2 3 (by decide)
  generalize F_Co_fill cs r1.2 A.co r1.1 2 (cI r1.2 a 3) = r2 at w2 e2 ⊢
  rw [q2] at w1 w2
  rw [q3] at w2
  have ha2 := ha1.ext e2.ext (by decide)
  have q4 : cI r2 a 4 = v 4 := ha2.2 4 (by decide)
  rw [q4]
  obtain ⟨s3, m, k3, g3, w3, e3, h3, h3', lo3, cd3, c0⟩ := co_bodyG (fu := fu) hW hp hx hd hv hv2 dp1 sz1 (by omega) w2
  generalize F_Co_writeBody cs fu Lf r2 A.co (v 4) lv = r3 at w3 e3 ⊢
  have len3 := w3.wk.len
  obtain ⟨s4, k4, w4, e4⟩ := co_fillG w3 (x1 := r1.1) (x2 := 3) (x3 := cI r3 A.co 2) v1 (by omega) (i := 3) rfl (by decide)
  generalize F_Co_fill cs r3 A.co r1.1 3 (cI r3 A.co 2) = r4 at w4 e4 ⊢
  refine ⟨⟨⟨a, rfl, ha.1⟩, h.wk.lay.co_0.1, s1, ⟨a, rfl, ha1.1⟩, w1.wk.lay.co_0.1, s2, ⟨a, rfl, ha2.1⟩, w2.wk.lay.co_0.1, s3, w3.wk.lay.co_0.1, w3.wk.lay.co_0.1, s4, trivial⟩, m, k4, _, w4, ((e1.trans h.wk.lay.mok e2).trans h.wk.lay.mok e3).trans h.wk.lay.mok e4, by omega, by omega, fun i hi => ?_, ?_, ?_, ?_, ?_, cd3.cong (fun i hi _ => ?_), ?_⟩
  · rw [upd_at, if_neg (by omega), lo3 i (by omega), upd_at, if_neg (by omega), ad_lo hi]
  · rw [fl_op (by omega) (by omega), kp_op lo3 (by omega), fl_op (by omega) (by omega), ad_op]; rfl
  · rw [fl_ne (by omega) (by omega) (Or.inr (by omega)), kp_fd lo3 (by omega) (by omega), fl_ne (by omega) (by omega) (Or.inr (by omega)), ad_fd]
  · rw [fl_ne (by omega) (by omega) (Or.inr (by omega)), kp_fd lo3 (by omega) (by omega), fl_fd]
  · rw [fl_fd, len3]
  · rw [upd_at, if_neg (by omega)]
  · rw [fl_op (by omega) (by omega)]; exact c0
end
end
