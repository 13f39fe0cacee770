-- pure rows: CC
section
/-! what each method leaves of the memory: by program (wip/tools/cdecomp.py) -/
theorem x_Ce_init (cs : Nat → ClassId) (lim : Nat × Nat) (M : gMem) (a0 : Nat) (hM : MOk M) (hS : S_Ce_init cs lim M a0) : Ext [(2, 0)] [] true M (F_Ce_init cs M a0) := by
  generalize hF : F_Ce_init cs M a0 = Fv
  unfold F_Ce_init at hF
  unfold S_Ce_init at hS
  have hx : Ext [(2, 0)] [] true M M := Ext.rf hM
  obtain ⟨hl1, hS⟩ := hS
  have hb2 := hx.sz.1
  replace hx : Ext [(2, 0)] [] true M (gnw M (1, .inl (cs 0, (16 : Int32).toNatClampNeg, .inl (fun _ => 0))) (16 : Int32).toNatClampNeg) := hx.newA
  obtain ⟨ho3, hS⟩ := hS
  replace hx : Ext [(2, 0)] [] true M (cP 2 (gnw M (1, .inl (cs 0, (16 : Int32).toNatClampNeg, .inl (fun _ => 0))) (16 : Int32).toNatClampNeg) a0 0 (va_rf (some M.2.1))) := hx.putA 0 ho3 (by decide) (by decide) hb2 (Nat.lt_succ_self _)
  subst hF
  exact hx
theorem x_Ar_copyOf (cs : Nat → ClassId) (lim : Nat × Nat) (M : gMem) (x0 : Option Nat) (x1 : Int32) (hM : MOk M) (hS : S_Ar_copyOf cs lim M x0 x1) : Ext [] [] true M ((F_Ar_copyOf cs M x0 x1).2) := by
  generalize hF : F_Ar_copyOf cs M x0 x1 = Fv
  unfold F_Ar_copyOf at hF
  unfold S_Ar_copyOf at hS
  have hx : Ext [] [] true M M := Ext.rf hM
  obtain ⟨ha1, hS⟩ := hS
  by_cases hc2 : x1 = (nI (aL M (x0.getD 0)))
  · rw [if_pos hc2] at hF hS
    exact hS.elim
  · rw [if_neg hc2] at hF hS
    obtain ⟨hl3, hS⟩ := hS
    have hb4 := hx.sz.1
    replace hx : Ext [] [] true M (gnw M (1, .inl (cs 0, x1.toNatClampNeg, .inl (fun _ => 0))) x1.toNatClampNeg) := hx.newA
    obtain ⟨ha5, hS⟩ := hS
    rw [mbind_eq] at hF hS
    generalize (if x1 < (nI (aL (gnw M (1, .inl (cs 0, x1.toNatClampNeg, .inl (fun _ => 0))) x1.toNatClampNeg) (x0.getD 0))) then x1 else nI (aL (gnw M (1, .inl (cs 0, x1.toNatClampNeg, .inl (fun _ => 0))) x1.toNatClampNeg) (x0.getD 0)) : Int32) = w6 at hF hS
    obtain ⟨ha7, hS⟩ := hS
    obtain ⟨ha8, hS⟩ := hS
    obtain ⟨hy9, hS⟩ := hS
    replace hx : Ext [] [] true M (aCp (cs 0) (gnw M (1, .inl (cs 0, x1.toNatClampNeg, .inl (fun _ => 0))) x1.toNatClampNeg) (x0.getD 0) M.2.1 (0 : Int32).toNatClampNeg (0 : Int32).toNatClampNeg w6.toNatClampNeg) := Ext.arrI hM hx ha8 (Or.inl hb4)
    subst hF
    exact hx
theorem copyOf_fresh {cs : Nat → ClassId} {lim : Nat × Nat} {M : gMem} {x0 : Option Nat} {x1 : Int32} (hS : S_Ar_copyOf cs lim M x0 x1) : (F_Ar_copyOf cs M x0 x1).1 = some M.2.1 := by
  unfold S_Ar_copyOf at hS
  unfold F_Ar_copyOf
  obtain ⟨-, hS⟩ := hS
  by_cases hc : x1 = nI (aL M (x0.getD 0))
  · rw [if_pos hc] at hS; exact hS.elim
  · rw [if_neg hc]; rfl
theorem copyOf_lt {cs : Nat → ClassId} {lim : Nat × Nat} {M : gMem} {x0 : Option Nat} {x1 : Int32} (hS : S_Ar_copyOf cs lim M x0 x1) : M.2.1 < (F_Ar_copyOf cs M x0 x1).2.2.1 := by
  unfold S_Ar_copyOf at hS
  unfold F_Ar_copyOf
  obtain ⟨-, hS⟩ := hS
  by_cases hc : x1 = nI (aL M (x0.getD 0))
  · rw [if_pos hc] at hS; exact hS.elim
  · rw [if_neg hc]; exact Nat.lt_succ_self _
theorem x_Ce_put (cs : Nat → ClassId) (lim : Nat × Nat) (M : gMem) (a0 : Nat) (x1 x2 : Int32) (hM : MOk M) (hS : S_Ce_put cs lim M a0 x1 x2) : Ext [(2, 0)] [(2, 0)] true M (F_Ce_put cs M a0 x1 x2) := by
  generalize hF : F_Ce_put cs M a0 x1 x2 = Fv
  unfold F_Ce_put at hF
  unfold S_Ce_put at hS
  have hx : Ext [(2, 0)] [(2, 0)] true M M := Ext.rf hM
  by_cases h1 : x1 < 0
  · rw [if_pos h1] at hF hS
    subst hF
    exact hx
  · rw [if_neg h1] at hF hS
    by_cases h2 : x1 < 65536
    · rw [if_pos h2] at hF hS
      obtain ⟨ho, ha, hS⟩ := hS
      by_cases h3 : x1 < nI (aL M ((cQ M a0 0).getD 0))
      · rw [if_pos h3] at hF hS
        obtain ⟨-, ha, -, -⟩ := hS
        subst hF
        exact Ext.arrI hM hx ha.2 (Or.inr (V_of (by decide) (by decide) ho ha.1))
      · rw [if_neg h3] at hF hS
        obtain ⟨-, -, -, hS⟩ := hS
        rw [mbind_eq] at hF hS
        generalize (if (x1 + 1) < (2 * (nI (aL M ((cQ M a0 0).getD 0)))) then 2 * (nI (aL M ((cQ M a0 0).getD 0))) else x1 + 1 : Int32) = w12 at hF hS
        obtain ⟨hs, hS⟩ := hS
        rw [mbind_eq] at hF hS
        replace hx := Ext.then hM hx (x_Ar_copyOf cs lim _ _ _ hx.ok hs) (by decide) (by decide) (by decide)
        have hfr := copyOf_fresh hs
        have hlt := copyOf_lt hs
        generalize F_Ar_copyOf cs M (cQ M a0 0) w12 = w14 at hF hS hx hfr hlt
        obtain ⟨r, M1⟩ := w14
        dsimp only at hF hS hx hfr hlt
        subst hfr
        obtain ⟨hp, hp2, ha2, -, -⟩ := hS
        replace hx : Ext [(2, 0)] [(2, 0)] true M (cP 2 M1 a0 0 (va_rf (some M.2.1))) := hx.putA 0 hp (by decide) (by decide) (Nat.le_refl _) hlt
        subst hF
        exact Ext.arrI hM hx ha2.2 (Or.inr (V_of (by decide) (by decide) hp2 ha2.1))
    · rw [if_neg h2] at hF hS
      subst hF
      exact hx
theorem x_Ty_init (cs : Nat → ClassId) (lim : Nat × Nat) (M : gMem) (a0 : Nat) (hM : MOk M) (hS : S_Ty_init cs lim M a0) : Ext [(1, 0), (1, 1), (1, 2), (1, 3), (1, 4), (2, 0)] [] true M (F_Ty_init cs M a0) := by
  generalize hF : F_Ty_init cs M a0 = Fv
  unfold F_Ty_init at hF
  unfold S_Ty_init at hS
  have hx : Ext [(1, 0), (1, 1), (1, 2), (1, 3), (1, 4), (2, 0)] [] true M M := Ext.rf hM
  obtain ⟨hl1, hS⟩ := hS
  replace hx : Ext [(1, 0), (1, 1), (1, 2), (1, 3), (1, 4), (2, 0)] [] true M (gnw M (1, .inr (2, [.null])) 1) := hx.newO (by decide)
  obtain ⟨hs2, hS⟩ := hS
  rw [mbind_eq] at hF hS
  replace hx := Ext.then hM hx (x_Ce_init cs lim _ M.2.1  hx.ok hs2) (by decide) (by decide) (by decide)
  generalize F_Ce_init cs (gnw M (1, .inr (2, [.null])) 1) M.2.1  = w3 at hF hS hx
  obtain ⟨ho4, hS⟩ := hS
  replace hx : Ext [(1, 0), (1, 1), (1, 2), (1, 3), (1, 4), (2, 0)] [] true M (cP 1 w3 a0 0 (va_rf (some M.2.1))) := hx.putQ 0 ho4 (by decide) (by decide) (by decide)
  obtain ⟨hl5, hS⟩ := hS
  replace hx : Ext [(1, 0), (1, 1), (1, 2), (1, 3), (1, 4), (2, 0)] [] true M (gnw (cP 1 w3 a0 0 (va_rf (some M.2.1))) (1, .inr (2, [.null])) 1) := hx.newO (by decide)
  obtain ⟨hs6, hS⟩ := hS
  rw [mbind_eq] at hF hS
  replace hx := Ext.then hM hx (x_Ce_init cs lim _ ((cP 1 w3 a0 0 (va_rf (some M.2.1))).2.1)  hx.ok hs6) (by decide) (by decide) (by decide)
  generalize F_Ce_init cs (gnw (cP 1 w3 a0 0 (va_rf (some M.2.1))) (1, .inr (2, [.null])) 1) ((cP 1 w3 a0 0 (va_rf (some M.2.1))).2.1)  = w7 at hF hS hx
  obtain ⟨ho8, hS⟩ := hS
  replace hx : Ext [(1, 0), (1, 1), (1, 2), (1, 3), (1, 4), (2, 0)] [] true M (cP 1 w7 a0 1 (va_rf (some ((cP 1 w3 a0 0 (va_rf (some M.2.1))).2.1)))) := hx.putQ 1 ho8 (by decide) (by decide) (by decide)
  obtain ⟨hl9, hS⟩ := hS
  replace hx : Ext [(1, 0), (1, 1), (1, 2), (1, 3), (1, 4), (2, 0)] [] true M (gnw (cP 1 w7 a0 1 (va_rf (some ((cP 1 w3 a0 0 (va_rf (some M.2.1))).2.1)))) (1, .inr (2, [.null])) 1) := hx.newO (by decide)
  obtain ⟨hs10, hS⟩ := hS
  rw [mbind_eq] at hF hS
  replace hx := Ext.then hM hx (x_Ce_init cs lim _ ((cP 1 w7 a0 1 (va_rf (some ((cP 1 w3 a0 0 (va_rf (some M.2.1))).2.1)))).2.1)  hx.ok hs10) (by decide) (by decide) (by decide)
  generalize F_Ce_init cs (gnw (cP 1 w7 a0 1 (va_rf (some ((cP 1 w3 a0 0 (va_rf (some M.2.1))).2.1)))) (1, .inr (2, [.null])) 1) ((cP 1 w7 a0 1 (va_rf (some ((cP 1 w3 a0 0 (va_rf (some M.2.1))).2.1)))).2.1)  = w11 at hF hS hx
  obtain ⟨ho12, hS⟩ := hS
  replace hx : Ext [(1, 0), (1, 1), (1, 2), (1, 3), (1, 4), (2, 0)] [] true M (cP 1 w11 a0 2 (va_rf (some ((cP 1 w7 a0 1 (va_rf (some ((cP 1 w3 a0 0 (va_rf (some M.2.1))).2.1)))).2.1)))) := hx.putQ 2 ho12 (by decide) (by decide) (by decide)
  obtain ⟨hl13, hS⟩ := hS
  replace hx : Ext [(1, 0), (1, 1), (1, 2), (1, 3), (1, 4), (2, 0)] [] true M (gnw (cP 1 w11 a0 2 (va_rf (some ((cP 1 w7 a0 1 (va_rf (some ((cP 1 w3 a0 0 (va_rf (some M.2.1))).2.1)))).2.1)))) (1, .inr (2, [.null])) 1) := hx.newO (by decide)
  obtain ⟨hs14, hS⟩ := hS
  rw [mbind_eq] at hF hS
  replace hx := Ext.then hM hx (x_Ce_init cs lim _ ((cP 1 w11 a0 2 (va_rf (some ((cP 1 w7 a0 1 (va_rf (some ((cP 1 w3 a0 0 (va_rf (some M.2.1))).2.1)))).2.1)))).2.1)  hx.ok hs14) (by decide) (by decide) (by decide)
  generalize F_Ce_init cs (gnw (cP 1 w11 a0 2 (va_rf (some ((cP 1 w7 a0 1 (va_rf (some ((cP 1 w3 a0 0 (va_rf (some M.2.1))).2.1)))).2.1)))) (1, .inr (2, [.null])) 1) ((cP 1 w11 a0 2 (va_rf (some ((cP 1 w7 a0 1 (va_rf (some ((cP 1 w3 a0 0 (va_rf (some M.2.1))).2.1)))).2.1)))).2.1)  = w15 at hF hS hx
  obtain ⟨ho16, hS⟩ := hS
  replace hx : Ext [(1, 0), (1, 1), (1, 2), (1, 3), (1, 4), (2, 0)] [] true M (cP 1 w15 a0 3 (va_rf (some ((cP 1 w11 a0 2 (va_rf (some ((cP 1 w7 a0 1 (va_rf (some ((cP 1 w3 a0 0 (va_rf (some M.2.1))).2.1)))).2.1)))).2.1)))) := hx.putQ 3 ho16 (by decide) (by decide) (by decide)
  obtain ⟨ho17, hS⟩ := hS
  replace hx : Ext [(1, 0), (1, 1), (1, 2), (1, 3), (1, 4), (2, 0)] [] true M (cP 1 (cP 1 w15 a0 3 (va_rf (some ((cP 1 w11 a0 2 (va_rf (some ((cP 1 w7 a0 1 (va_rf (some ((cP 1 w3 a0 0 (va_rf (some M.2.1))).2.1)))).2.1)))).2.1)))) a0 4 (.int 3)) := hx.putI 4 ho17 (by decide) (by decide)
  subst hF
  exact hx
theorem x_Ty_dropBack (cs : Nat → ClassId) (lim : Nat × Nat) (M : gMem) (a0 : Nat) (x1 : Int32) (hM : MOk M) (hS : S_Ty_dropBack cs lim M a0 x1) : Ext [(1, 4)] [] false M (F_Ty_dropBack cs M a0 x1) := by
  generalize hF : F_Ty_dropBack cs M a0 x1 = Fv
  unfold F_Ty_dropBack at hF
  unfold S_Ty_dropBack at hS
  have hx : Ext [(1, 4)] [] false M M := Ext.rf hM
  obtain ⟨ho1, hS⟩ := hS
  replace hx : Ext [(1, 4)] [] false M (cP 1 M a0 4 (.int x1)) := hx.putI 4 ho1 (by decide) (by decide)
  subst hF
  exact hx
theorem x_Ty_write (cs : Nat → ClassId) (lim : Nat × Nat) (M : gMem) (a0 : Nat) (x1 : Int32) (x2 : Int32) (x3 : Int32) (hM : MOk M) (hS : S_Ty_write cs lim M a0 x1 x2 x3) : Ext [(2, 0)] [(2, 0)] true M (F_Ty_write cs M a0 x1 x2 x3) := by
  generalize hF : F_Ty_write cs M a0 x1 x2 x3 = Fv
  unfold F_Ty_write at hF
  unfold S_Ty_write at hS
  have hx : Ext [(2, 0)] [(2, 0)] true M M := Ext.rf hM
  obtain ⟨ho1, hS⟩ := hS
  by_cases hc2 : x3 = 0
  · rw [if_pos hc2] at hF hS
    obtain ⟨ho3, hS⟩ := hS
    obtain ⟨ho4, hS⟩ := hS
    obtain ⟨hs5, hS⟩ := hS
    rw [mbind_eq] at hF hS
    generalize hq_w6 : F_Ce_at cs M ((cQ M a0 3).getD 0) ((x1 * 16) + (x2 / 32)) = w6 at hF hS
    obtain ⟨ho7, hS⟩ := hS
    obtain ⟨hs8, hS⟩ := hS
    rw [mbind_eq] at hF hS
    replace hx := Ext.then hM hx (x_Ce_put cs lim _ ((cQ M a0 3).getD 0) ((x1 * 16) + (x2 / 32)) (w6 &&& ((1 <<< ((x2 - x2 / 32 * 32) &&& 31)) ^^^ (-1))) hx.ok hs8) (by decide) (by decide) (by decide)
    generalize F_Ce_put cs M ((cQ M a0 3).getD 0) ((x1 * 16) + (x2 / 32)) (w6 &&& ((1 <<< ((x2 - x2 / 32 * 32) &&& 31)) ^^^ (-1))) = w9 at hF hS hx
    subst hF
    exact hx
  · rw [if_neg hc2] at hF hS
    obtain ⟨ho10, hS⟩ := hS
    obtain ⟨ho11, hS⟩ := hS
    obtain ⟨hs12, hS⟩ := hS
    rw [mbind_eq] at hF hS
    generalize hq_w13 : F_Ce_at cs M ((cQ M a0 3).getD 0) ((x1 * 16) + (x2 / 32)) = w13 at hF hS
    obtain ⟨ho14, hS⟩ := hS
    obtain ⟨hs15, hS⟩ := hS
    rw [mbind_eq] at hF hS
    replace hx := Ext.then hM hx (x_Ce_put cs lim _ ((cQ M a0 3).getD 0) ((x1 * 16) + (x2 / 32)) (w13 ||| (1 <<< ((x2 - x2 / 32 * 32) &&& 31))) hx.ok hs15) (by decide) (by decide) (by decide)
    generalize F_Ce_put cs M ((cQ M a0 3).getD 0) ((x1 * 16) + (x2 / 32)) (w13 ||| (1 <<< ((x2 - x2 / 32 * 32) &&& 31))) = w16 at hF hS hx
    subst hF
    exact hx
theorem xw_Ty_numberOf_77 (cs : Nat → ClassId) (lim : Nat × Nat) : ∀ (n : Nat) (M : gMem) (a0 : Nat) (x1 : Int32) (x2 : Int32) (x3 : Int32) (x4 : Int32) (x5 : Int32) (x6 : Int32) (Fv : Int32 × gMem) (hM : MOk M) (hS : S_Ty_numberOf_77 cs lim n M a0 x1 x2 x3 x4 x5 x6) (hF : F_Ty_numberOf_77 cs n M a0 x1 x2 x3 x4 x5 x6 = Fv), Ext [(1, 4), (2, 0)] [(2, 0)] true M Fv.2 := by
  intro n
  induction n with
  | zero =>
    intro M a0 x1 x2 x3 x4 x5 x6 Fv hM hS hF
    exact hS.elim
  | succ n ih =>
    intro M a0 x1 x2 x3 x4 x5 x6 Fv hM hS hF
    simp only [S_Ty_numberOf_77] at hS
    simp only [F_Ty_numberOf_77] at hF
    have hx : Ext [(1, 4), (2, 0)] [(2, 0)] true M M := Ext.rf hM
    by_cases hc1 : x5 ≤ x6
    · rw [if_pos hc1] at hF hS
      subst hF
      exact hx
    · rw [if_neg hc1] at hF hS
      obtain ⟨ho2, hS⟩ := hS
      obtain ⟨hs3, hS⟩ := hS
      rw [mbind_eq] at hF hS
      generalize hq_w4 : F_Ty_partsSuit cs M a0 x5 x6 = w4 at hF hS
      obtain ⟨ho5, hS⟩ := hS
      obtain ⟨hs6, hS⟩ := hS
      rw [mbind_eq] at hF hS
      replace hx := Ext.then hM hx (x_Ty_write cs lim _ a0 x5 x6 w4 hx.ok hs6) (by decide) (by decide) (by decide)
      generalize F_Ty_write cs M a0 x5 x6 w4 = w7 at hF hS hx
      obtain ⟨ho8, hS⟩ := hS
      obtain ⟨hs9, hS⟩ := hS
      rw [mbind_eq] at hF hS
      generalize hq_w10 : F_Ty_partsSuit cs w7 a0 x6 x5 = w10 at hF hS
      obtain ⟨ho11, hS⟩ := hS
      obtain ⟨hs12, hS⟩ := hS
      rw [mbind_eq] at hF hS
      replace hx := Ext.then hM hx (x_Ty_write cs lim _ a0 x6 x5 w10 hx.ok hs12) (by decide) (by decide) (by decide)
      generalize F_Ty_write cs w7 a0 x6 x5 w10 = w13 at hF hS hx
      exact Ext.trans hM hx (ih w13 a0 x1 x2 x3 x4 x5 (x6 + 1) Fv hx.ok hS hF)
theorem x_Ty_numberOf (cs : Nat → ClassId) (lim : Nat × Nat) (n : Nat) (M : gMem) (a0 : Nat) (x1 : Int32) (x2 : Int32) (x3 : Int32) (hM : MOk M) (hS : S_Ty_numberOf cs lim n M a0 x1 x2 x3) : Ext [(1, 4), (2, 0)] [(2, 0)] true M ((F_Ty_numberOf cs n M a0 x1 x2 x3).2) := by
  generalize hF : F_Ty_numberOf cs n M a0 x1 x2 x3 = Fv
  unfold F_Ty_numberOf at hF
  unfold S_Ty_numberOf at hS
  have hx : Ext [(1, 4), (2, 0)] [(2, 0)] true M M := Ext.rf hM
  obtain ⟨ho1, hS⟩ := hS
  obtain ⟨hs2, hS⟩ := hS
  rw [mbind_eq] at hF hS
  generalize hq_w3 : F_Ty_find cs n M a0 x1 x2 x3 = w3 at hF hS
  by_cases hc4 : w3 = (-1)
  · rw [if_pos hc4] at hF hS
    obtain ⟨ho5, hS⟩ := hS
    by_cases hc6 : (cI M a0 4) < 512
    · rw [if_pos hc6] at hF hS
      obtain ⟨ho7, hS⟩ := hS
      obtain ⟨ho8, hS⟩ := hS
      obtain ⟨ho9, hS⟩ := hS
      obtain ⟨hs10, hS⟩ := hS
      rw [mbind_eq] at hF hS
      replace hx := Ext.then hM hx (x_Ce_put cs lim _ ((cQ M a0 0).getD 0) (cI M a0 4) x1 hx.ok hs10) (by decide) (by decide) (by decide)
      generalize F_Ce_put cs M ((cQ M a0 0).getD 0) (cI M a0 4) x1 = w11 at hF hS hx
      obtain ⟨ho12, hS⟩ := hS
      obtain ⟨ho13, hS⟩ := hS
      obtain ⟨hs14, hS⟩ := hS
      rw [mbind_eq] at hF hS
      replace hx := Ext.then hM hx (x_Ce_put cs lim _ ((cQ w11 a0 1).getD 0) (cI M a0 4) x2 hx.ok hs14) (by decide) (by decide) (by decide)
      generalize F_Ce_put cs w11 ((cQ w11 a0 1).getD 0) (cI M a0 4) x2 = w15 at hF hS hx
      obtain ⟨ho16, hS⟩ := hS
      obtain ⟨ho17, hS⟩ := hS
      obtain ⟨hs18, hS⟩ := hS
      rw [mbind_eq] at hF hS
      replace hx := Ext.then hM hx (x_Ce_put cs lim _ ((cQ w15 a0 2).getD 0) (cI M a0 4) x3 hx.ok hs18) (by decide) (by decide) (by decide)
      generalize F_Ce_put cs w15 ((cQ w15 a0 2).getD 0) (cI M a0 4) x3 = w19 at hF hS hx
      obtain ⟨ho20, hS⟩ := hS
      obtain ⟨ho21, hS⟩ := hS
      replace hx : Ext [(1, 4), (2, 0)] [(2, 0)] true M (cP 1 w19 a0 4 (.int ((cI w19 a0 4) + 1))) := hx.putI 4 ho21 (by decide) (by decide)
      exact Ext.trans hM hx (xw_Ty_numberOf_77 cs lim n (cP 1 w19 a0 4 (.int ((cI w19 a0 4) + 1))) a0 x1 x2 x3 w3 (cI M a0 4) 3 Fv hx.ok hS hF)
    · rw [if_neg hc6] at hF hS
      subst hF
      exact hx
  · rw [if_neg hc4] at hF hS
    subst hF
    exact hx
theorem x_No_init (cs : Nat → ClassId) (lim : Nat × Nat) (M : gMem) (a0 : Nat) (x1 : Int32) (hM : MOk M) (hS : S_No_init cs lim M a0 x1) : Ext [(4, 0), (4, 2), (4, 3), (4, 4), (4, 5), (4, 6), (4, 9), (4, 10)] [] false M (F_No_init cs M a0 x1) := by
  generalize hF : F_No_init cs M a0 x1 = Fv
  unfold F_No_init at hF
  unfold S_No_init at hS
  have hx : Ext [(4, 0), (4, 2), (4, 3), (4, 4), (4, 5), (4, 6), (4, 9), (4, 10)] [] false M M := Ext.rf hM
  obtain ⟨ho1, hS⟩ := hS
  replace hx : Ext [(4, 0), (4, 2), (4, 3), (4, 4), (4, 5), (4, 6), (4, 9), (4, 10)] [] false M (cP 4 M a0 2 (.int (-1))) := hx.putI 2 ho1 (by decide) (by decide)
  obtain ⟨ho2, hS⟩ := hS
  replace hx : Ext [(4, 0), (4, 2), (4, 3), (4, 4), (4, 5), (4, 6), (4, 9), (4, 10)] [] false M (cP 4 (cP 4 M a0 2 (.int (-1))) a0 3 (.int (-1))) := hx.putI 3 ho2 (by decide) (by decide)
  obtain ⟨ho3, hS⟩ := hS
  replace hx : Ext [(4, 0), (4, 2), (4, 3), (4, 4), (4, 5), (4, 6), (4, 9), (4, 10)] [] false M (cP 4 (cP 4 (cP 4 M a0 2 (.int (-1))) a0 3 (.int (-1))) a0 4 (.int (-1))) := hx.putI 4 ho3 (by decide) (by decide)
  obtain ⟨ho4, hS⟩ := hS
  replace hx : Ext [(4, 0), (4, 2), (4, 3), (4, 4), (4, 5), (4, 6), (4, 9), (4, 10)] [] false M (cP 4 (cP 4 (cP 4 (cP 4 M a0 2 (.int (-1))) a0 3 (.int (-1))) a0 4 (.int (-1))) a0 5 (.int (-1))) := hx.putI 5 ho4 (by decide) (by decide)
  obtain ⟨ho5, hS⟩ := hS
  replace hx : Ext [(4, 0), (4, 2), (4, 3), (4, 4), (4, 5), (4, 6), (4, 9), (4, 10)] [] false M (cP 4 (cP 4 (cP 4 (cP 4 (cP 4 M a0 2 (.int (-1))) a0 3 (.int (-1))) a0 4 (.int (-1))) a0 5 (.int (-1))) a0 6 (.int (-1))) := hx.putI 6 ho5 (by decide) (by decide)
  obtain ⟨ho6, hS⟩ := hS
  replace hx : Ext [(4, 0), (4, 2), (4, 3), (4, 4), (4, 5), (4, 6), (4, 9), (4, 10)] [] false M (cP 4 (cP 4 (cP 4 (cP 4 (cP 4 (cP 4 M a0 2 (.int (-1))) a0 3 (.int (-1))) a0 4 (.int (-1))) a0 5 (.int (-1))) a0 6 (.int (-1))) a0 9 (.int 1)) := hx.putI 9 ho6 (by decide) (by decide)
  obtain ⟨ho7, hS⟩ := hS
  replace hx : Ext [(4, 0), (4, 2), (4, 3), (4, 4), (4, 5), (4, 6), (4, 9), (4, 10)] [] false M (cP 4 (cP 4 (cP 4 (cP 4 (cP 4 (cP 4 (cP 4 M a0 2 (.int (-1))) a0 3 (.int (-1))) a0 4 (.int (-1))) a0 5 (.int (-1))) a0 6 (.int (-1))) a0 9 (.int 1)) a0 10 (.int 1)) := hx.putI 10 ho7 (by decide) (by decide)
  obtain ⟨ho8, hS⟩ := hS
  replace hx : Ext [(4, 0), (4, 2), (4, 3), (4, 4), (4, 5), (4, 6), (4, 9), (4, 10)] [] false M (cP 4 (cP 4 (cP 4 (cP 4 (cP 4 (cP 4 (cP 4 (cP 4 M a0 2 (.int (-1))) a0 3 (.int (-1))) a0 4 (.int (-1))) a0 5 (.int (-1))) a0 6 (.int (-1))) a0 9 (.int 1)) a0 10 (.int 1)) a0 0 (.int x1)) := hx.putI 0 ho8 (by decide) (by decide)
  subst hF
  exact hx
theorem x_Cl_init (cs : Nat → ClassId) (lim : Nat × Nat) (M : gMem) (a0 : Nat) (x1 : Int32) (x2 : Int32) (x3 : Int32) (x4 : Int32) (hM : MOk M) (hS : S_Cl_init cs lim M a0 x1 x2 x3 x4) : Ext [(5, 0), (5, 1), (5, 2), (5, 3)] [] false M (F_Cl_init cs M a0 x1 x2 x3 x4) := by
  generalize hF : F_Cl_init cs M a0 x1 x2 x3 x4 = Fv
  unfold F_Cl_init at hF
  unfold S_Cl_init at hS
  have hx : Ext [(5, 0), (5, 1), (5, 2), (5, 3)] [] false M M := Ext.rf hM
  obtain ⟨ho1, hS⟩ := hS
  replace hx : Ext [(5, 0), (5, 1), (5, 2), (5, 3)] [] false M (cP 5 M a0 0 (.int x1)) := hx.putI 0 ho1 (by decide) (by decide)
  obtain ⟨ho2, hS⟩ := hS
  replace hx : Ext [(5, 0), (5, 1), (5, 2), (5, 3)] [] false M (cP 5 (cP 5 M a0 0 (.int x1)) a0 1 (.int x2)) := hx.putI 1 ho2 (by decide) (by decide)
  obtain ⟨ho3, hS⟩ := hS
  replace hx : Ext [(5, 0), (5, 1), (5, 2), (5, 3)] [] false M (cP 5 (cP 5 (cP 5 M a0 0 (.int x1)) a0 1 (.int x2)) a0 2 (.int x3)) := hx.putI 2 ho3 (by decide) (by decide)
  obtain ⟨ho4, hS⟩ := hS
  replace hx : Ext [(5, 0), (5, 1), (5, 2), (5, 3)] [] false M (cP 5 (cP 5 (cP 5 (cP 5 M a0 0 (.int x1)) a0 1 (.int x2)) a0 2 (.int x3)) a0 3 (.int x4)) := hx.putI 3 ho4 (by decide) (by decide)
  subst hF
  exact hx
theorem x_Ns_init (cs : Nat → ClassId) (lim : Nat × Nat) (M : gMem) (a0 : Nat) (hM : MOk M) (hS : S_Ns_init cs lim M a0) : Ext [(3, 0), (3, 1), (3, 2), (3, 3), (4, 0), (4, 2), (4, 3), (4, 4), (4, 5), (4, 6), (4, 9), (4, 10), (5, 0), (5, 1), (5, 2), (5, 3)] [] true M (F_Ns_init cs M a0) := by
  generalize hF : F_Ns_init cs M a0 = Fv
  unfold F_Ns_init at hF
  unfold S_Ns_init at hS
  have hx : Ext [(3, 0), (3, 1), (3, 2), (3, 3), (4, 0), (4, 2), (4, 3), (4, 4), (4, 5), (4, 6), (4, 9), (4, 10), (5, 0), (5, 1), (5, 2), (5, 3)] [] true M M := Ext.rf hM
  obtain ⟨hl1, hS⟩ := hS
  have hb2 := hx.sz.1
  replace hx : Ext [(3, 0), (3, 1), (3, 2), (3, 3), (4, 0), (4, 2), (4, 3), (4, 4), (4, 5), (4, 6), (4, 9), (4, 10), (5, 0), (5, 1), (5, 2), (5, 3)] [] true M (gnw M (1, .inl (cs 3, (200 : Int32).toNatClampNeg, .inr (.inr (.inr (.inr (fun _ => none)))))) (200 : Int32).toNatClampNeg) := hx.newA
  obtain ⟨ho3, hS⟩ := hS
  replace hx : Ext [(3, 0), (3, 1), (3, 2), (3, 3), (4, 0), (4, 2), (4, 3), (4, 4), (4, 5), (4, 6), (4, 9), (4, 10), (5, 0), (5, 1), (5, 2), (5, 3)] [] true M (cP 3 (gnw M (1, .inl (cs 3, (200 : Int32).toNatClampNeg, .inr (.inr (.inr (.inr (fun _ => none)))))) (200 : Int32).toNatClampNeg) a0 0 (va_rf (some M.2.1))) := hx.putA 0 ho3 (by decide) (by decide) hb2 (Nat.lt_succ_self _)
  obtain ⟨hl4, hS⟩ := hS
  have hb5 := hx.sz.1
  replace hx : Ext [(3, 0), (3, 1), (3, 2), (3, 3), (4, 0), (4, 2), (4, 3), (4, 4), (4, 5), (4, 6), (4, 9), (4, 10), (5, 0), (5, 1), (5, 2), (5, 3)] [] true M (gnw (cP 3 (gnw M (1, .inl (cs 3, (200 : Int32).toNatClampNeg, .inr (.inr (.inr (.inr (fun _ => none)))))) (200 : Int32).toNatClampNeg) a0 0 (va_rf (some M.2.1))) (1, .inl (cs 4, (40 : Int32).toNatClampNeg, .inr (.inr (.inr (.inr (fun _ => none)))))) (40 : Int32).toNatClampNeg) := hx.newA
  obtain ⟨ho6, hS⟩ := hS
  replace hx : Ext [(3, 0), (3, 1), (3, 2), (3, 3), (4, 0), (4, 2), (4, 3), (4, 4), (4, 5), (4, 6), (4, 9), (4, 10), (5, 0), (5, 1), (5, 2), (5, 3)] [] true M (cP 3 (gnw (cP 3 (gnw M (1, .inl (cs 3, (200 : Int32).toNatClampNeg, .inr (.inr (.inr (.inr (fun _ => none)))))) (200 : Int32).toNatClampNeg) a0 0 (va_rf (some M.2.1))) (1, .inl (cs 4, (40 : Int32).toNatClampNeg, .inr (.inr (.inr (.inr (fun _ => none)))))) (40 : Int32).toNatClampNeg) a0 1 (va_rf (some ((cP 3 (gnw M (1, .inl (cs 3, (200 : Int32).toNatClampNeg, .inr (.inr (.inr (.inr (fun _ => none)))))) (200 : Int32).toNatClampNeg) a0 0 (va_rf (some M.2.1))).2.1)))) := hx.putA 1 ho6 (by decide) (by decide) hb5 (Nat.lt_succ_self _)
  obtain ⟨hl7, hS⟩ := hS
  replace hx : Ext [(3, 0), (3, 1), (3, 2), (3, 3), (4, 0), (4, 2), (4, 3), (4, 4), (4, 5), (4, 6), (4, 9), (4, 10), (5, 0), (5, 1), (5, 2), (5, 3)] [] true M (gnw (cP 3 (gnw (cP 3 (gnw M (1, .inl (cs 3, (200 : Int32).toNatClampNeg, .inr (.inr (.inr (.inr (fun _ => none)))))) (200 : Int32).toNatClampNeg) a0 0 (va_rf (some M.2.1))) (1, .inl (cs 4, (40 : Int32).toNatClampNeg, .inr (.inr (.inr (.inr (fun _ => none)))))) (40 : Int32).toNatClampNeg) a0 1 (va_rf (some ((cP 3 (gnw M (1, .inl (cs 3, (200 : Int32).toNatClampNeg, .inr (.inr (.inr (.inr (fun _ => none)))))) (200 : Int32).toNatClampNeg) a0 0 (va_rf (some M.2.1))).2.1)))) (1, .inr (4, [.int 0, .int 0, .int 0, .int 0, .int 0, .int 0, .int 0, .int 0, .int 0, .int 0, .int 0])) 11) := hx.newO (by decide)
  obtain ⟨hs8, hS⟩ := hS
  rw [mbind_eq] at hF hS
  replace hx := Ext.then hM hx (x_No_init cs lim _ ((cP 3 (gnw (cP 3 (gnw M (1, .inl (cs 3, (200 : Int32).toNatClampNeg, .inr (.inr (.inr (.inr (fun _ => none)))))) (200 : Int32).toNatClampNeg) a0 0 (va_rf (some M.2.1))) (1, .inl (cs 4, (40 : Int32).toNatClampNeg, .inr (.inr (.inr (.inr (fun _ => none)))))) (40 : Int32).toNatClampNeg) a0 1 (va_rf (some ((cP 3 (gnw M (1, .inl (cs 3, (200 : Int32).toNatClampNeg, .inr (.inr (.inr (.inr (fun _ => none)))))) (200 : Int32).toNatClampNeg) a0 0 (va_rf (some M.2.1))).2.1)))).2.1) 2 hx.ok hs8) (by decide) (by decide) (by decide)
  generalize F_No_init cs (gnw (cP 3 (gnw (cP 3 (gnw M (1, .inl (cs 3, (200 : Int32).toNatClampNeg, .inr (.inr (.inr (.inr (fun _ => none)))))) (200 : Int32).toNatClampNeg) a0 0 (va_rf (some M.2.1))) (1, .inl (cs 4, (40 : Int32).toNatClampNeg, .inr (.inr (.inr (.inr (fun _ => none)))))) (40 : Int32).toNatClampNeg) a0 1 (va_rf (some ((cP 3 (gnw M (1, .inl (cs 3, (200 : Int32).toNatClampNeg, .inr (.inr (.inr (.inr (fun _ => none)))))) (200 : Int32).toNatClampNeg) a0 0 (va_rf (some M.2.1))).2.1)))) (1, .inr (4, [.int 0, .int 0, .int 0, .int 0, .int 0, .int 0, .int 0, .int 0, .int 0, .int 0, .int 0])) 11) ((cP 3 (gnw (cP 3 (gnw M (1, .inl (cs 3, (200 : Int32).toNatClampNeg, .inr (.inr (.inr (.inr (fun _ => none)))))) (200 : Int32).toNatClampNeg) a0 0 (va_rf (some M.2.1))) (1, .inl (cs 4, (40 : Int32).toNatClampNeg, .inr (.inr (.inr (.inr (fun _ => none)))))) (40 : Int32).toNatClampNeg) a0 1 (va_rf (some ((cP 3 (gnw M (1, .inl (cs 3, (200 : Int32).toNatClampNeg, .inr (.inr (.inr (.inr (fun _ => none)))))) (200 : Int32).toNatClampNeg) a0 0 (va_rf (some M.2.1))).2.1)))).2.1) 2 = w9 at hF hS hx
  obtain ⟨ho10, hS⟩ := hS
  replace hx : Ext [(3, 0), (3, 1), (3, 2), (3, 3), (4, 0), (4, 2), (4, 3), (4, 4), (4, 5), (4, 6), (4, 9), (4, 10), (5, 0), (5, 1), (5, 2), (5, 3)] [] true M (cP 3 w9 a0 2 (va_rf (some ((cP 3 (gnw (cP 3 (gnw M (1, .inl (cs 3, (200 : Int32).toNatClampNeg, .inr (.inr (.inr (.inr (fun _ => none)))))) (200 : Int32).toNatClampNeg) a0 0 (va_rf (some M.2.1))) (1, .inl (cs 4, (40 : Int32).toNatClampNeg, .inr (.inr (.inr (.inr (fun _ => none)))))) (40 : Int32).toNatClampNeg) a0 1 (va_rf (some ((cP 3 (gnw M (1, .inl (cs 3, (200 : Int32).toNatClampNeg, .inr (.inr (.inr (.inr (fun _ => none)))))) (200 : Int32).toNatClampNeg) a0 0 (va_rf (some M.2.1))).2.1)))).2.1)))) := hx.putQ 2 ho10 (by decide) (by decide) (by decide)
  obtain ⟨hl11, hS⟩ := hS
  replace hx : Ext [(3, 0), (3, 1), (3, 2), (3, 3), (4, 0), (4, 2), (4, 3), (4, 4), (4, 5), (4, 6), (4, 9), (4, 10), (5, 0), (5, 1), (5, 2), (5, 3)] [] true M (gnw (cP 3 w9 a0 2 (va_rf (some ((cP 3 (gnw (cP 3 (gnw M (1, .inl (cs 3, (200 : Int32).toNatClampNeg, .inr (.inr (.inr (.inr (fun _ => none)))))) (200 : Int32).toNatClampNeg) a0 0 (va_rf (some M.2.1))) (1, .inl (cs 4, (40 : Int32).toNatClampNeg, .inr (.inr (.inr (.inr (fun _ => none)))))) (40 : Int32).toNatClampNeg) a0 1 (va_rf (some ((cP 3 (gnw M (1, .inl (cs 3, (200 : Int32).toNatClampNeg, .inr (.inr (.inr (.inr (fun _ => none)))))) (200 : Int32).toNatClampNeg) a0 0 (va_rf (some M.2.1))).2.1)))).2.1)))) (1, .inr (5, [.int 0, .int 0, .int 0, .int 0])) 4) := hx.newO (by decide)
  obtain ⟨hs12, hS⟩ := hS
  rw [mbind_eq] at hF hS
  replace hx := Ext.then hM hx (x_Cl_init cs lim _ ((cP 3 w9 a0 2 (va_rf (some ((cP 3 (gnw (cP 3 (gnw M (1, .inl (cs 3, (200 : Int32).toNatClampNeg, .inr (.inr (.inr (.inr (fun _ => none)))))) (200 : Int32).toNatClampNeg) a0 0 (va_rf (some M.2.1))) (1, .inl (cs 4, (40 : Int32).toNatClampNeg, .inr (.inr (.inr (.inr (fun _ => none)))))) (40 : Int32).toNatClampNeg) a0 1 (va_rf (some ((cP 3 (gnw M (1, .inl (cs 3, (200 : Int32).toNatClampNeg, .inr (.inr (.inr (.inr (fun _ => none)))))) (200 : Int32).toNatClampNeg) a0 0 (va_rf (some M.2.1))).2.1)))).2.1)))).2.1) 0 0 0 (-1) hx.ok hs12) (by decide) (by decide) (by decide)
  generalize F_Cl_init cs (gnw (cP 3 w9 a0 2 (va_rf (some ((cP 3 (gnw (cP 3 (gnw M (1, .inl (cs 3, (200 : Int32).toNatClampNeg, .inr (.inr (.inr (.inr (fun _ => none)))))) (200 : Int32).toNatClampNeg) a0 0 (va_rf (some M.2.1))) (1, .inl (cs 4, (40 : Int32).toNatClampNeg, .inr (.inr (.inr (.inr (fun _ => none)))))) (40 : Int32).toNatClampNeg) a0 1 (va_rf (some ((cP 3 (gnw M (1, .inl (cs 3, (200 : Int32).toNatClampNeg, .inr (.inr (.inr (.inr (fun _ => none)))))) (200 : Int32).toNatClampNeg) a0 0 (va_rf (some M.2.1))).2.1)))).2.1)))) (1, .inr (5, [.int 0, .int 0, .int 0, .int 0])) 4) ((cP 3 w9 a0 2 (va_rf (some ((cP 3 (gnw (cP 3 (gnw M (1, .inl (cs 3, (200 : Int32).toNatClampNeg, .inr (.inr (.inr (.inr (fun _ => none)))))) (200 : Int32).toNatClampNeg) a0 0 (va_rf (some M.2.1))) (1, .inl (cs 4, (40 : Int32).toNatClampNeg, .inr (.inr (.inr (.inr (fun _ => none)))))) (40 : Int32).toNatClampNeg) a0 1 (va_rf (some ((cP 3 (gnw M (1, .inl (cs 3, (200 : Int32).toNatClampNeg, .inr (.inr (.inr (.inr (fun _ => none)))))) (200 : Int32).toNatClampNeg) a0 0 (va_rf (some M.2.1))).2.1)))).2.1)))).2.1) 0 0 0 (-1) = w13 at hF hS hx
  obtain ⟨ho14, hS⟩ := hS
  replace hx : Ext [(3, 0), (3, 1), (3, 2), (3, 3), (4, 0), (4, 2), (4, 3), (4, 4), (4, 5), (4, 6), (4, 9), (4, 10), (5, 0), (5, 1), (5, 2), (5, 3)] [] true M (cP 3 w13 a0 3 (va_rf (some ((cP 3 w9 a0 2 (va_rf (some ((cP 3 (gnw (cP 3 (gnw M (1, .inl (cs 3, (200 : Int32).toNatClampNeg, .inr (.inr (.inr (.inr (fun _ => none)))))) (200 : Int32).toNatClampNeg) a0 0 (va_rf (some M.2.1))) (1, .inl (cs 4, (40 : Int32).toNatClampNeg, .inr (.inr (.inr (.inr (fun _ => none)))))) (40 : Int32).toNatClampNeg) a0 1 (va_rf (some ((cP 3 (gnw M (1, .inl (cs 3, (200 : Int32).toNatClampNeg, .inr (.inr (.inr (.inr (fun _ => none)))))) (200 : Int32).toNatClampNeg) a0 0 (va_rf (some M.2.1))).2.1)))).2.1)))).2.1)))) := hx.putQ 3 ho14 (by decide) (by decide) (by decide)
  subst hF
  exact hx
theorem x_Ns_dropAll (cs : Nat → ClassId) (lim : Nat × Nat) (M : gMem) (a0 : Nat) (hM : MOk M) (hS : S_Ns_dropAll cs lim M a0) : Ext [(3, 4), (3, 5), (3, 6)] [] false M (F_Ns_dropAll cs M a0) := by
  generalize hF : F_Ns_dropAll cs M a0 = Fv
  unfold F_Ns_dropAll at hF
  unfold S_Ns_dropAll at hS
  have hx : Ext [(3, 4), (3, 5), (3, 6)] [] false M M := Ext.rf hM
  obtain ⟨ho1, hS⟩ := hS
  replace hx : Ext [(3, 4), (3, 5), (3, 6)] [] false M (cP 3 M a0 4 (.int 0)) := hx.putI 4 ho1 (by decide) (by decide)
  obtain ⟨ho2, hS⟩ := hS
  replace hx : Ext [(3, 4), (3, 5), (3, 6)] [] false M (cP 3 (cP 3 M a0 4 (.int 0)) a0 5 (.int 0)) := hx.putI 5 ho2 (by decide) (by decide)
  obtain ⟨ho3, hS⟩ := hS
  replace hx : Ext [(3, 4), (3, 5), (3, 6)] [] false M (cP 3 (cP 3 (cP 3 M a0 4 (.int 0)) a0 5 (.int 0)) a0 6 (.int 0)) := hx.putI 6 ho3 (by decide) (by decide)
  subst hF
  exact hx
theorem x_Ns_makeReady (cs : Nat → ClassId) (lim : Nat × Nat) (M : gMem) (a0 : Nat) (x1 : Option Nat) (hM : MOk M) (hS : S_Ns_makeReady cs lim M a0 x1) : Ext [(3, 5)] [(3, 1)] false M ((F_Ns_makeReady cs M a0 x1).2) := by
  generalize hF : F_Ns_makeReady cs M a0 x1 = Fv
  unfold F_Ns_makeReady at hF
  unfold S_Ns_makeReady at hS
  have hx : Ext [(3, 5)] [(3, 1)] false M M := Ext.rf hM
  obtain ⟨ho1, hS⟩ := hS
  obtain ⟨hs2, hS⟩ := hS
  rw [mbind_eq] at hF hS
  generalize hq_w3 : F_Ns_hasRoomForClause cs M a0  = w3 at hF hS
  by_cases hc4 : w3 = 0
  · rw [if_pos hc4] at hF hS
    obtain ⟨ho5, hS⟩ := hS
    obtain ⟨ho6, hS⟩ := hS
    subst hF
    exact hx
  · rw [if_neg hc4] at hF hS
    obtain ⟨ho7, hS⟩ := hS
    obtain ⟨ho8, hS⟩ := hS
    obtain ⟨ha9, hS⟩ := hS
    obtain ⟨hi10, hS⟩ := hS
    obtain ⟨hv11, hS⟩ := hS
    replace hx : Ext [(3, 5)] [(3, 1)] false M (aPq (cs 4) M ((cQ M a0 1).getD 0) (cI M a0 5).toNatClampNeg x1) := Ext.arrQ hM hx ha9.2 (Or.inr (V_of (by decide) (by decide) ho7 ha9.1))
    obtain ⟨ho12, hS⟩ := hS
    obtain ⟨ho13, hS⟩ := hS
    replace hx : Ext [(3, 5)] [(3, 1)] false M (cP 3 (aPq (cs 4) M ((cQ M a0 1).getD 0) (cI M a0 5).toNatClampNeg x1) a0 5 (.int ((cI (aPq (cs 4) M ((cQ M a0 1).getD 0) (cI M a0 5).toNatClampNeg x1) a0 5) + 1))) := hx.putI 5 ho13 (by decide) (by decide)
    obtain ⟨ho14, hS⟩ := hS
    obtain ⟨ho15, hS⟩ := hS
    subst hF
    exact hx
theorem x_Ns_giveReadyClauses (cs : Nat → ClassId) (lim : Nat × Nat) (M : gMem) (a0 : Nat) (x1 : Option Nat) (hM : MOk M) (hS : S_Ns_giveReadyClauses cs lim M a0 x1) : Ext [(3, 6), (4, 7), (4, 8)] [] false M (F_Ns_giveReadyClauses cs M a0 x1) := by
  generalize hF : F_Ns_giveReadyClauses cs M a0 x1 = Fv
  unfold F_Ns_giveReadyClauses at hF
  unfold S_Ns_giveReadyClauses at hS
  have hx : Ext [(3, 6), (4, 7), (4, 8)] [] false M M := Ext.rf hM
  obtain ⟨ho1, hS⟩ := hS
  obtain ⟨ho2, hS⟩ := hS
  replace hx : Ext [(3, 6), (4, 7), (4, 8)] [] false M (cP 4 M (x1.getD 0) 7 (.int (cI M a0 6))) := hx.putI 7 (cOq.at ho2).2 (by decide) (by decide)
  obtain ⟨ho3, hS⟩ := hS
  obtain ⟨ho4, hS⟩ := hS
  replace hx : Ext [(3, 6), (4, 7), (4, 8)] [] false M (cP 4 (cP 4 M (x1.getD 0) 7 (.int (cI M a0 6))) (x1.getD 0) 8 (.int (cI (cP 4 M (x1.getD 0) 7 (.int (cI M a0 6))) a0 5))) := hx.putI 8 (cOq.at ho4).2 (by decide) (by decide)
  obtain ⟨ho5, hS⟩ := hS
  obtain ⟨ho6, hS⟩ := hS
  replace hx : Ext [(3, 6), (4, 7), (4, 8)] [] false M (cP 3 (cP 4 (cP 4 M (x1.getD 0) 7 (.int (cI M a0 6))) (x1.getD 0) 8 (.int (cI (cP 4 M (x1.getD 0) 7 (.int (cI M a0 6))) a0 5))) a0 6 (.int (cI (cP 4 (cP 4 M (x1.getD 0) 7 (.int (cI M a0 6))) (x1.getD 0) 8 (.int (cI (cP 4 M (x1.getD 0) 7 (.int (cI M a0 6))) a0 5))) a0 5))) := hx.putI 6 ho6 (by decide) (by decide)
  subst hF
  exact hx
theorem x_Ns_measure (cs : Nat → ClassId) (lim : Nat × Nat) (M : gMem) (a0 : Nat) (x1 : Option Nat) (x2 : Int32) (hM : MOk M) (hS : S_Ns_measure cs lim M a0 x1 x2) : Ext [(4, 9), (4, 10)] [] false M (F_Ns_measure cs M a0 x1 x2) := by
  generalize hF : F_Ns_measure cs M a0 x1 x2 = Fv
  unfold F_Ns_measure at hF
  unfold S_Ns_measure at hS
  have hx : Ext [(4, 9), (4, 10)] [] false M M := Ext.rf hM
  by_cases hc1 : x2 = (-1)
  · rw [if_pos hc1] at hF hS
    subst hF
    exact hx
  · rw [if_neg hc1] at hF hS
    obtain ⟨ho2, hS⟩ := hS
    obtain ⟨ho3, hS⟩ := hS
    obtain ⟨hs4, hS⟩ := hS
    rw [mbind_eq] at hF hS
    generalize hq_w5 : F_Ns_at cs M a0 x2 = w5 at hF hS
    obtain ⟨ho6, hS⟩ := hS
    rw [mbind_eq] at hF hS
    generalize (if ((cI M (x1.getD 0) 9) + (cI M (w5.getD 0) 9)) < 100000 then (cI M (x1.getD 0) 9) + (cI M (w5.getD 0) 9) else 100000 : Int32) = w7 at hF hS
    obtain ⟨ho8, hS⟩ := hS
    replace hx : Ext [(4, 9), (4, 10)] [] false M (cP 4 M (x1.getD 0) 9 (.int w7)) := hx.putI 9 (cOq.at ho8).2 (by decide) (by decide)
    obtain ⟨ho9, hS⟩ := hS
    obtain ⟨ho10, hS⟩ := hS
    obtain ⟨hs11, hS⟩ := hS
    rw [mbind_eq] at hF hS
    generalize hq_w12 : F_Ns_at cs (cP 4 M (x1.getD 0) 9 (.int w7)) a0 x2 = w12 at hF hS
    obtain ⟨ho13, hS⟩ := hS
    rw [mbind_eq] at hF hS
    generalize (if (cI (cP 4 M (x1.getD 0) 9 (.int w7)) (x1.getD 0) 10) < (1 + (cI (cP 4 M (x1.getD 0) 9 (.int w7)) (w12.getD 0) 10)) then 1 + (cI (cP 4 M (x1.getD 0) 9 (.int w7)) (w12.getD 0) 10) else cI (cP 4 M (x1.getD 0) 9 (.int w7)) (x1.getD 0) 10 : Int32) = w14 at hF hS
    obtain ⟨ho15, hS⟩ := hS
    replace hx : Ext [(4, 9), (4, 10)] [] false M (cP 4 (cP 4 M (x1.getD 0) 9 (.int w7)) (x1.getD 0) 10 (.int w14)) := hx.putI 10 (cOq.at ho15).2 (by decide) (by decide)
    subst hF
    exact hx
theorem xw_Ns_add_41 (cs : Nat → ClassId) (lim : Nat × Nat) : ∀ (n : Nat) (M : gMem) (a0 : Nat) (x1 : Option Nat) (x2 : Int32) (Fv : Int32 × gMem) (hM : MOk M) (hS : S_Ns_add_41 cs lim n M a0 x1 x2) (hF : F_Ns_add_41 cs n M a0 x1 x2 = Fv), Ext [(3, 4), (4, 9), (4, 10)] [(3, 0)] false M Fv.2 := by
  intro n
  induction n with
  | zero =>
    intro M a0 x1 x2 Fv hM hS hF
    exact hS.elim
  | succ n ih =>
    intro M a0 x1 x2 Fv hM hS hF
    simp only [S_Ns_add_41] at hS
    simp only [F_Ns_add_41] at hF
    have hx : Ext [(3, 4), (4, 9), (4, 10)] [(3, 0)] false M M := Ext.rf hM
    obtain ⟨ho1, hS⟩ := hS
    by_cases hc2 : (cI M (x1.getD 0) 8) ≤ x2
    · rw [if_pos hc2] at hF hS
      obtain ⟨ho3, hS⟩ := hS
      obtain ⟨ho4, hS⟩ := hS
      obtain ⟨ha5, hS⟩ := hS
      obtain ⟨hi6, hS⟩ := hS
      obtain ⟨hv7, hS⟩ := hS
      replace hx : Ext [(3, 4), (4, 9), (4, 10)] [(3, 0)] false M (aPq (cs 3) M ((cQ M a0 0).getD 0) (cI M a0 4).toNatClampNeg x1) := Ext.arrQ hM hx ha5.2 (Or.inr (V_of (by decide) (by decide) ho3 ha5.1))
      obtain ⟨ho8, hS⟩ := hS
      obtain ⟨ho9, hS⟩ := hS
      replace hx : Ext [(3, 4), (4, 9), (4, 10)] [(3, 0)] false M (cP 3 (aPq (cs 3) M ((cQ M a0 0).getD 0) (cI M a0 4).toNatClampNeg x1) a0 4 (.int ((cI (aPq (cs 3) M ((cQ M a0 0).getD 0) (cI M a0 4).toNatClampNeg x1) a0 4) + 1))) := hx.putI 4 ho9 (by decide) (by decide)
      obtain ⟨ho10, hS⟩ := hS
      subst hF
      exact hx
    · rw [if_neg hc2] at hF hS
      obtain ⟨ho11, hS⟩ := hS
      obtain ⟨hs12, hS⟩ := hS
      rw [mbind_eq] at hF hS
      generalize hq_w13 : F_Ns_clauseAt cs M a0 x2 = w13 at hF hS
      obtain ⟨ho14, hS⟩ := hS
      obtain ⟨ho15, hS⟩ := hS
      obtain ⟨hs16, hS⟩ := hS
      rw [mbind_eq] at hF hS
      replace hx := Ext.then hM hx (x_Ns_measure cs lim _ a0 x1 (cI M (w13.getD 0) 3) hx.ok hs16) (by decide) (by decide) (by decide)
      generalize F_Ns_measure cs M a0 x1 (cI M (w13.getD 0) 3) = w17 at hF hS hx
      exact Ext.trans hM hx (ih w17 a0 x1 (x2 + 1) Fv hx.ok hS hF)
theorem x_Ns_add (cs : Nat → ClassId) (lim : Nat × Nat) (n : Nat) (M : gMem) (a0 : Nat) (x1 : Option Nat) (hM : MOk M) (hS : S_Ns_add cs lim n M a0 x1) : Ext [(3, 4), (4, 9), (4, 10)] [(3, 0)] false M ((F_Ns_add cs n M a0 x1).2) := by
  generalize hF : F_Ns_add cs n M a0 x1 = Fv
  unfold F_Ns_add at hF
  unfold S_Ns_add at hS
  have hx : Ext [(3, 4), (4, 9), (4, 10)] [(3, 0)] false M M := Ext.rf hM
  obtain ⟨ho1, hS⟩ := hS
  obtain ⟨hs2, hS⟩ := hS
  rw [mbind_eq] at hF hS
  generalize hq_w3 : F_Ns_hasRoom cs M a0  = w3 at hF hS
  by_cases hc4 : w3 = 0
  · rw [if_pos hc4] at hF hS
    subst hF
    exact hx
  · rw [if_neg hc4] at hF hS
    obtain ⟨ho5, hS⟩ := hS
    obtain ⟨ho6, hS⟩ := hS
    obtain ⟨hs7, hS⟩ := hS
    rw [mbind_eq] at hF hS
    replace hx := Ext.then hM hx (x_Ns_measure cs lim _ a0 x1 (cI M (x1.getD 0) 4) hx.ok hs7) (by decide) (by decide) (by decide)
    generalize F_Ns_measure cs M a0 x1 (cI M (x1.getD 0) 4) = w8 at hF hS hx
    obtain ⟨ho9, hS⟩ := hS
    obtain ⟨ho10, hS⟩ := hS
    obtain ⟨hs11, hS⟩ := hS
    rw [mbind_eq] at hF hS
    replace hx := Ext.then hM hx (x_Ns_measure cs lim _ a0 x1 (cI w8 (x1.getD 0) 5) hx.ok hs11) (by decide) (by decide) (by decide)
    generalize F_Ns_measure cs w8 a0 x1 (cI w8 (x1.getD 0) 5) = w12 at hF hS hx
    obtain ⟨ho13, hS⟩ := hS
    obtain ⟨ho14, hS⟩ := hS
    obtain ⟨hs15, hS⟩ := hS
    rw [mbind_eq] at hF hS
    replace hx := Ext.then hM hx (x_Ns_measure cs lim _ a0 x1 (cI w12 (x1.getD 0) 6) hx.ok hs15) (by decide) (by decide) (by decide)
    generalize F_Ns_measure cs w12 a0 x1 (cI w12 (x1.getD 0) 6) = w16 at hF hS hx
    obtain ⟨ho17, hS⟩ := hS
    exact Ext.trans hM hx (xw_Ns_add_41 cs lim n w16 a0 x1 (cI w16 (x1.getD 0) 7) Fv hx.ok hS hF)
theorem x_Ck_forget (cs : Nat → ClassId) (lim : Nat × Nat) (M : gMem) (a0 : Nat) (hM : MOk M) (hS : S_Ck_forget cs lim M a0) : Ext [(6, 5), (6, 6), (6, 7)] [] false M (F_Ck_forget cs M a0) := by
  generalize hF : F_Ck_forget cs M a0 = Fv
  unfold F_Ck_forget at hF
  unfold S_Ck_forget at hS
  have hx : Ext [(6, 5), (6, 6), (6, 7)] [] false M M := Ext.rf hM
  obtain ⟨ho1, hS⟩ := hS
  replace hx : Ext [(6, 5), (6, 6), (6, 7)] [] false M (cP 6 M a0 5 (.int 0)) := hx.putI 5 ho1 (by decide) (by decide)
  obtain ⟨ho2, hS⟩ := hS
  replace hx : Ext [(6, 5), (6, 6), (6, 7)] [] false M (cP 6 (cP 6 M a0 5 (.int 0)) a0 6 (.int (-1))) := hx.putI 6 ho2 (by decide) (by decide)
  obtain ⟨ho3, hS⟩ := hS
  replace hx : Ext [(6, 5), (6, 6), (6, 7)] [] false M (cP 6 (cP 6 (cP 6 M a0 5 (.int 0)) a0 6 (.int (-1))) a0 7 (.int 0)) := hx.putI 7 ho3 (by decide) (by decide)
  subst hF
  exact hx
theorem x_Ck_blame (cs : Nat → ClassId) (lim : Nat × Nat) (M : gMem) (a0 : Nat) (x1 : Int32) (x2 : Int32) (hM : MOk M) (hS : S_Ck_blame cs lim M a0 x1 x2) : Ext [(6, 5), (6, 6)] [] false M ((F_Ck_blame cs M a0 x1 x2).2) := by
  generalize hF : F_Ck_blame cs M a0 x1 x2 = Fv
  unfold F_Ck_blame at hF
  unfold S_Ck_blame at hS
  have hx : Ext [(6, 5), (6, 6)] [] false M M := Ext.rf hM
  obtain ⟨ho1, hS⟩ := hS
  replace hx : Ext [(6, 5), (6, 6)] [] false M (cP 6 M a0 5 (.int x1)) := hx.putI 5 ho1 (by decide) (by decide)
  obtain ⟨ho2, hS⟩ := hS
  replace hx : Ext [(6, 5), (6, 6)] [] false M (cP 6 (cP 6 M a0 5 (.int x1)) a0 6 (.int x2)) := hx.putI 6 ho2 (by decide) (by decide)
  subst hF
  exact hx
theorem x_Ck_lookName (cs : Nat → ClassId) (lim : Nat × Nat) (M : gMem) (a0 : Nat) (x1 : Option Nat) (x2 : Int32) (hM : MOk M) (hS : S_Ck_lookName cs lim M a0 x1 x2) : Ext [(6, 5), (6, 6)] [] false M ((F_Ck_lookName cs M a0 x1 x2).2) := by
  generalize hF : F_Ck_lookName cs M a0 x1 x2 = Fv
  unfold F_Ck_lookName at hF
  unfold S_Ck_lookName at hS
  have hx : Ext [(6, 5), (6, 6)] [] false M M := Ext.rf hM
  obtain ⟨ho1, hS⟩ := hS
  by_cases hc2 : (cI M (x1.getD 0) 1) < 0
  · rw [if_pos hc2] at hF hS
    obtain ⟨ho3, hS⟩ := hS
    obtain ⟨hs4, hS⟩ := hS
    rw [mbind_eq] at hF hS
    replace hx := Ext.then hM hx (x_Ck_blame cs lim _ a0 5 x2 hx.ok hs4) (by decide) (by decide) (by decide)
    generalize F_Ck_blame cs M a0 5 x2 = w5 at hF hS hx
    subst hF
    exact hx
  · rw [if_neg hc2] at hF hS
    by_cases hc6 : 10 ≤ (cI M (x1.getD 0) 1)
    · rw [if_pos hc6] at hF hS
      obtain ⟨ho7, hS⟩ := hS
      obtain ⟨hs8, hS⟩ := hS
      rw [mbind_eq] at hF hS
      replace hx := Ext.then hM hx (x_Ck_blame cs lim _ a0 5 x2 hx.ok hs8) (by decide) (by decide) (by decide)
      generalize F_Ck_blame cs M a0 5 x2 = w9 at hF hS hx
      subst hF
      exact hx
    · rw [if_neg hc6] at hF hS
      obtain ⟨ho10, hS⟩ := hS
      obtain ⟨ha11, hS⟩ := hS
      obtain ⟨hi12, hS⟩ := hS
      by_cases hc13 : (aF M ((cQ M a0 4).getD 0) (cI M (x1.getD 0) 1).toNatClampNeg) = (-1)
      · rw [if_pos hc13] at hF hS
        obtain ⟨ho19, hS⟩ := hS
        obtain ⟨hs20, hS⟩ := hS
        rw [mbind_eq] at hF hS
        replace hx := Ext.then hM hx (x_Ck_blame cs lim _ a0 5 x2 hx.ok hs20) (by decide) (by decide) (by decide)
        generalize F_Ck_blame cs M a0 5 x2 = w21 at hF hS hx
        subst hF
        exact hx
      · rw [if_neg hc13] at hF hS
        obtain ⟨ho14, hS⟩ := hS
        obtain ⟨ha15, hS⟩ := hS
        obtain ⟨hi16, hS⟩ := hS
        obtain ⟨hs17, hS⟩ := hS
        rw [mbind_eq] at hF hS
        generalize hq_w18 : F_Ck_seenAs cs M (aF M ((cQ M a0 4).getD 0) (cI M (x1.getD 0) 1).toNatClampNeg) 0 = w18 at hF hS
        subst hF
        exact hx
theorem x_Ck_rename (cs : Nat → ClassId) (lim : Nat × Nat) (M : gMem) (a0 : Nat) (x1 : Int32) (x2 : Int32) (hM : MOk M) (hS : S_Ck_rename cs lim M a0 x1 x2) : Ext [] [(6, 4)] false M ((F_Ck_rename cs M a0 x1 x2).2) := by
  generalize hF : F_Ck_rename cs M a0 x1 x2 = Fv
  unfold F_Ck_rename at hF
  unfold S_Ck_rename at hS
  have hx : Ext [] [(6, 4)] false M M := Ext.rf hM
  by_cases hc1 : x1 < 0
  · rw [if_pos hc1] at hF hS
    subst hF
    exact hx
  · rw [if_neg hc1] at hF hS
    by_cases hc2 : x1 < 10
    · rw [if_pos hc2] at hF hS
      obtain ⟨ho3, hS⟩ := hS
      obtain ⟨ha4, hS⟩ := hS
      obtain ⟨hi5, hS⟩ := hS
      obtain ⟨ho6, hS⟩ := hS
      obtain ⟨ha7, hS⟩ := hS
      obtain ⟨hi8, hS⟩ := hS
      replace hx : Ext [] [(6, 4)] false M (aPi (cs 0) M ((cQ M a0 4).getD 0) x1.toNatClampNeg x2) := Ext.arrI hM hx ha7.2 (Or.inr (V_of (by decide) (by decide) ho6 ha7.1))
      subst hF
      exact hx
    · rw [if_neg hc2] at hF hS
      subst hF
      exact hx
theorem x_Ck_lookLet (cs : Nat → ClassId) (lim : Nat × Nat) (n : Nat) (Lf : gMem → Nat → Int32 → Int32 → Int32 × gMem) (Ls : gMem → Nat → Int32 → Int32 → Prop) (hL : ∀ (M : gMem) (a0 : Nat) (x1 x2 : Int32), MOk M → Ls M a0 x1 x2 → Ext [(1, 4), (2, 0), (6, 5), (6, 6)] [(2, 0), (6, 4)] true M (Lf M a0 x1 x2).2) (M : gMem) (a0 : Nat) (x1 : Option Nat) (x2 : Int32) (hM : MOk M) (hS : S_Ck_lookLet cs lim n Lf Ls M a0 x1 x2) : Ext [(1, 4), (2, 0), (6, 5), (6, 6)] [(2, 0), (6, 4)] true M ((F_Ck_lookLet cs n Lf M a0 x1 x2).2) := by
  generalize hF : F_Ck_lookLet cs n Lf M a0 x1 x2 = Fv
  unfold F_Ck_lookLet at hF
  unfold S_Ck_lookLet at hS
  have hx : Ext [(1, 4), (2, 0), (6, 5), (6, 6)] [(2, 0), (6, 4)] true M M := Ext.rf hM
  obtain ⟨ho1, hS⟩ := hS
  obtain ⟨ho2, hS⟩ := hS
  obtain ⟨hs3, hS⟩ := hS
  rw [mbind_eq] at hF hS
  replace hx := Ext.then hM hx (hL _ a0 (cI M (x1.getD 0) 4) (x2 + 1) hx.ok hs3) (by decide) (by decide) (by decide)
  generalize Lf M a0 (cI M (x1.getD 0) 4) (x2 + 1) = w4 at hF hS hx
  by_cases hc5 : w4.1 = (-1)
  · rw [if_pos hc5] at hF hS
    subst hF
    exact hx
  · rw [if_neg hc5] at hF hS
    obtain ⟨ho6, hS⟩ := hS
    obtain ⟨hs7, hS⟩ := hS
    rw [mbind_eq] at hF hS
    generalize hq_w8 : F_Ck_typeIn cs w4.2 w4.1 = w8 at hF hS
    obtain ⟨ho9, hS⟩ := hS
    obtain ⟨hs10, hS⟩ := hS
    rw [mbind_eq] at hF hS
    replace hx := Ext.then hM hx (x_Ck_rename cs lim _ a0 (cI w4.2 (x1.getD 0) 2) w8 hx.ok hs10) (by decide) (by decide) (by decide)
    generalize F_Ck_rename cs w4.2 a0 (cI w4.2 (x1.getD 0) 2) w8 = w11 at hF hS hx
    obtain ⟨ho12, hS⟩ := hS
    obtain ⟨ho13, hS⟩ := hS
    obtain ⟨hs14, hS⟩ := hS
    rw [mbind_eq] at hF hS
    replace hx := Ext.then hM hx (hL _ a0 (cI w11.2 (x1.getD 0) 5) (x2 + 1) hx.ok hs14) (by decide) (by decide) (by decide)
    generalize Lf w11.2 a0 (cI w11.2 (x1.getD 0) 5) (x2 + 1) = w15 at hF hS hx
    obtain ⟨ho16, hS⟩ := hS
    obtain ⟨ho17, hS⟩ := hS
    obtain ⟨hs18, hS⟩ := hS
    rw [mbind_eq] at hF hS
    replace hx := Ext.then hM hx (x_Ck_rename cs lim _ a0 (cI w15.2 (x1.getD 0) 2) w11.1 hx.ok hs18) (by decide) (by decide) (by decide)
    generalize F_Ck_rename cs w15.2 a0 (cI w15.2 (x1.getD 0) 2) w11.1 = w19 at hF hS hx
    by_cases hc20 : w15.1 = (-1)
    · rw [if_pos hc20] at hF hS
      subst hF
      exact hx
    · rw [if_neg hc20] at hF hS
      obtain ⟨hs21, hS⟩ := hS
      rw [mbind_eq] at hF hS
      generalize hq_w22 : F_Ck_typeIn cs w19.2 w15.1 = w22 at hF hS
      obtain ⟨hs23, hS⟩ := hS
      rw [mbind_eq] at hF hS
      generalize hq_w24 : F_Ck_effectsIn cs w19.2 w4.1 = w24 at hF hS
      obtain ⟨hs25, hS⟩ := hS
      rw [mbind_eq] at hF hS
      generalize hq_w26 : F_Ck_effectsIn cs w19.2 w15.1 = w26 at hF hS
      obtain ⟨hs27, hS⟩ := hS
      rw [mbind_eq] at hF hS
      generalize hq_w28 : F_Ck_seenAs cs w19.2 w22 (w24 ||| w26) = w28 at hF hS
      subst hF
      exact hx
theorem x_Ck_bodyKeepsTo (cs : Nat → ClassId) (lim : Nat × Nat) (M : gMem) (a0 : Nat) (x1 : Int32) (x2 : Int32) (x3 : Int32) (hM : MOk M) (hS : S_Ck_bodyKeepsTo cs lim M a0 x1 x2 x3) : Ext [(6, 5), (6, 6)] [] false M ((F_Ck_bodyKeepsTo cs M a0 x1 x2 x3).2) := by
  generalize hF : F_Ck_bodyKeepsTo cs M a0 x1 x2 x3 = Fv
  unfold F_Ck_bodyKeepsTo at hF
  unfold S_Ck_bodyKeepsTo at hS
  have hx : Ext [(6, 5), (6, 6)] [] false M M := Ext.rf hM
  obtain ⟨ho1, hS⟩ := hS
  obtain ⟨hs2, hS⟩ := hS
  rw [mbind_eq] at hF hS
  generalize hq_w3 : F_Ck_typeIn cs M x3 = w3 at hF hS
  obtain ⟨ho4, hS⟩ := hS
  obtain ⟨ho5, hS⟩ := hS
  obtain ⟨hs6, hS⟩ := hS
  rw [mbind_eq] at hF hS
  generalize hq_w7 : F_Ty_resultOf cs M ((cQ M a0 1).getD 0) x1 = w7 at hF hS
  obtain ⟨ho8, hS⟩ := hS
  obtain ⟨hs9, hS⟩ := hS
  rw [mbind_eq] at hF hS
  generalize hq_w10 : F_Ty_suits cs M ((cQ M a0 1).getD 0) w3 w7 = w10 at hF hS
  by_cases hc11 : w10 = 0
  · rw [if_pos hc11] at hF hS
    obtain ⟨ho24, hS⟩ := hS
    obtain ⟨hs25, hS⟩ := hS
    rw [mbind_eq] at hF hS
    replace hx := Ext.then hM hx (x_Ck_blame cs lim _ a0 6 x2 hx.ok hs25) (by decide) (by decide) (by decide)
    generalize F_Ck_blame cs M a0 6 x2 = w26 at hF hS hx
    subst hF
    exact hx
  · rw [if_neg hc11] at hF hS
    obtain ⟨hs12, hS⟩ := hS
    rw [mbind_eq] at hF hS
    generalize hq_w13 : F_Ck_effectsIn cs M x3 = w13 at hF hS
    obtain ⟨ho14, hS⟩ := hS
    obtain ⟨ho15, hS⟩ := hS
    obtain ⟨hs16, hS⟩ := hS
    rw [mbind_eq] at hF hS
    generalize hq_w17 : F_Ty_rowOf cs M ((cQ M a0 1).getD 0) x1 = w17 at hF hS
    obtain ⟨hs18, hS⟩ := hS
    rw [mbind_eq] at hF hS
    generalize hq_w19 : F_N_isWithin cs M w13 w17 = w19 at hF hS
    by_cases hc20 : w19 = 0
    · rw [if_pos hc20] at hF hS
      obtain ⟨ho21, hS⟩ := hS
      obtain ⟨hs22, hS⟩ := hS
      rw [mbind_eq] at hF hS
      replace hx := Ext.then hM hx (x_Ck_blame cs lim _ a0 7 x2 hx.ok hs22) (by decide) (by decide) (by decide)
      generalize F_Ck_blame cs M a0 7 x2 = w23 at hF hS hx
      subst hF
      exact hx
    · rw [if_neg hc20] at hF hS
      subst hF
      exact hx
theorem x_Ck_lookRec (cs : Nat → ClassId) (lim : Nat × Nat) (n : Nat) (Lf : gMem → Nat → Int32 → Int32 → Int32 × gMem) (Ls : gMem → Nat → Int32 → Int32 → Prop) (hL : ∀ (M : gMem) (a0 : Nat) (x1 x2 : Int32), MOk M → Ls M a0 x1 x2 → Ext [(1, 4), (2, 0), (6, 5), (6, 6)] [(2, 0), (6, 4)] true M (Lf M a0 x1 x2).2) (M : gMem) (a0 : Nat) (x1 : Option Nat) (x2 : Int32) (hM : MOk M) (hS : S_Ck_lookRec cs lim n Lf Ls M a0 x1 x2) : Ext [(1, 4), (2, 0), (6, 5), (6, 6)] [(2, 0), (6, 4)] true M ((F_Ck_lookRec cs n Lf M a0 x1 x2).2) := by
  generalize hF : F_Ck_lookRec cs n Lf M a0 x1 x2 = Fv
  unfold F_Ck_lookRec at hF
  unfold S_Ck_lookRec at hS
  have hx : Ext [(1, 4), (2, 0), (6, 5), (6, 6)] [(2, 0), (6, 4)] true M M := Ext.rf hM
  obtain ⟨ho1, hS⟩ := hS
  obtain ⟨ho2, hS⟩ := hS
  obtain ⟨ho3, hS⟩ := hS
  obtain ⟨hs4, hS⟩ := hS
  rw [mbind_eq] at hF hS
  replace hx := Ext.then hM hx (x_Ck_rename cs lim _ a0 (cI M (x1.getD 0) 3) (cI M (x1.getD 0) 1) hx.ok hs4) (by decide) (by decide) (by decide)
  generalize F_Ck_rename cs M a0 (cI M (x1.getD 0) 3) (cI M (x1.getD 0) 1) = w5 at hF hS hx
  obtain ⟨ho6, hS⟩ := hS
  obtain ⟨ho7, hS⟩ := hS
  obtain ⟨ho8, hS⟩ := hS
  obtain ⟨hs9, hS⟩ := hS
  rw [mbind_eq] at hF hS
  generalize hq_w10 : F_Ty_argumentOf cs w5.2 ((cQ w5.2 a0 1).getD 0) (cI M (x1.getD 0) 1) = w10 at hF hS
  obtain ⟨ho11, hS⟩ := hS
  obtain ⟨hs12, hS⟩ := hS
  rw [mbind_eq] at hF hS
  replace hx := Ext.then hM hx (x_Ck_rename cs lim _ a0 (cI w5.2 (x1.getD 0) 2) w10 hx.ok hs12) (by decide) (by decide) (by decide)
  generalize F_Ck_rename cs w5.2 a0 (cI w5.2 (x1.getD 0) 2) w10 = w13 at hF hS hx
  obtain ⟨ho14, hS⟩ := hS
  obtain ⟨ho15, hS⟩ := hS
  obtain ⟨hs16, hS⟩ := hS
  rw [mbind_eq] at hF hS
  replace hx := Ext.then hM hx (hL _ a0 (cI w13.2 (x1.getD 0) 4) (x2 + 1) hx.ok hs16) (by decide) (by decide) (by decide)
  generalize Lf w13.2 a0 (cI w13.2 (x1.getD 0) 4) (x2 + 1) = w17 at hF hS hx
  obtain ⟨ho18, hS⟩ := hS
  obtain ⟨ho19, hS⟩ := hS
  obtain ⟨hs20, hS⟩ := hS
  rw [mbind_eq] at hF hS
  replace hx := Ext.then hM hx (x_Ck_rename cs lim _ a0 (cI w17.2 (x1.getD 0) 2) w13.1 hx.ok hs20) (by decide) (by decide) (by decide)
  generalize F_Ck_rename cs w17.2 a0 (cI w17.2 (x1.getD 0) 2) w13.1 = w21 at hF hS hx
  by_cases hc22 : w17.1 = (-1)
  · rw [if_pos hc22] at hF hS
    obtain ⟨ho23, hS⟩ := hS
    obtain ⟨ho24, hS⟩ := hS
    obtain ⟨hs25, hS⟩ := hS
    rw [mbind_eq] at hF hS
    replace hx := Ext.then hM hx (x_Ck_rename cs lim _ a0 (cI w21.2 (x1.getD 0) 3) w5.1 hx.ok hs25) (by decide) (by decide) (by decide)
    generalize F_Ck_rename cs w21.2 a0 (cI w21.2 (x1.getD 0) 3) w5.1 = w26 at hF hS hx
    subst hF
    exact hx
  · rw [if_neg hc22] at hF hS
    obtain ⟨ho27, hS⟩ := hS
    obtain ⟨ho28, hS⟩ := hS
    obtain ⟨hs29, hS⟩ := hS
    rw [mbind_eq] at hF hS
    replace hx := Ext.then hM hx (x_Ck_bodyKeepsTo cs lim _ a0 (cI M (x1.getD 0) 1) (cI w21.2 (x1.getD 0) 4) w17.1 hx.ok hs29) (by decide) (by decide) (by decide)
    generalize F_Ck_bodyKeepsTo cs w21.2 a0 (cI M (x1.getD 0) 1) (cI w21.2 (x1.getD 0) 4) w17.1 = w30 at hF hS hx
    by_cases hc31 : w30.1 = 0
    · rw [if_pos hc31] at hF hS
      obtain ⟨ho32, hS⟩ := hS
      obtain ⟨ho33, hS⟩ := hS
      obtain ⟨hs34, hS⟩ := hS
      rw [mbind_eq] at hF hS
      replace hx := Ext.then hM hx (x_Ck_rename cs lim _ a0 (cI w30.2 (x1.getD 0) 3) w5.1 hx.ok hs34) (by decide) (by decide) (by decide)
      generalize F_Ck_rename cs w30.2 a0 (cI w30.2 (x1.getD 0) 3) w5.1 = w35 at hF hS hx
      subst hF
      exact hx
    · rw [if_neg hc31] at hF hS
      obtain ⟨ho36, hS⟩ := hS
      obtain ⟨ho37, hS⟩ := hS
      obtain ⟨hs38, hS⟩ := hS
      rw [mbind_eq] at hF hS
      replace hx := Ext.then hM hx (hL _ a0 (cI w30.2 (x1.getD 0) 5) (x2 + 1) hx.ok hs38) (by decide) (by decide) (by decide)
      generalize Lf w30.2 a0 (cI w30.2 (x1.getD 0) 5) (x2 + 1) = w39 at hF hS hx
      obtain ⟨ho40, hS⟩ := hS
      obtain ⟨ho41, hS⟩ := hS
      obtain ⟨hs42, hS⟩ := hS
      rw [mbind_eq] at hF hS
      replace hx := Ext.then hM hx (x_Ck_rename cs lim _ a0 (cI w39.2 (x1.getD 0) 3) w5.1 hx.ok hs42) (by decide) (by decide) (by decide)
      generalize F_Ck_rename cs w39.2 a0 (cI w39.2 (x1.getD 0) 3) w5.1 = w43 at hF hS hx
      subst hF
      exact hx
theorem x_Ck_lookChoice (cs : Nat → ClassId) (lim : Nat × Nat) (n : Nat) (Lf : gMem → Nat → Int32 → Int32 → Int32 × gMem) (Ls : gMem → Nat → Int32 → Int32 → Prop) (hL : ∀ (M : gMem) (a0 : Nat) (x1 x2 : Int32), MOk M → Ls M a0 x1 x2 → Ext [(1, 4), (2, 0), (6, 5), (6, 6)] [(2, 0), (6, 4)] true M (Lf M a0 x1 x2).2) (M : gMem) (a0 : Nat) (x1 : Option Nat) (x2 : Int32) (hM : MOk M) (hS : S_Ck_lookChoice cs lim n Lf Ls M a0 x1 x2) : Ext [(1, 4), (2, 0), (6, 5), (6, 6)] [(2, 0), (6, 4)] true M ((F_Ck_lookChoice cs n Lf M a0 x1 x2).2) := by
  generalize hF : F_Ck_lookChoice cs n Lf M a0 x1 x2 = Fv
  unfold F_Ck_lookChoice at hF
  unfold S_Ck_lookChoice at hS
  have hx : Ext [(1, 4), (2, 0), (6, 5), (6, 6)] [(2, 0), (6, 4)] true M M := Ext.rf hM
  obtain ⟨ho1, hS⟩ := hS
  obtain ⟨ho2, hS⟩ := hS
  obtain ⟨hs3, hS⟩ := hS
  rw [mbind_eq] at hF hS
  replace hx := Ext.then hM hx (hL _ a0 (cI M (x1.getD 0) 4) (x2 + 1) hx.ok hs3) (by decide) (by decide) (by decide)
  generalize Lf M a0 (cI M (x1.getD 0) 4) (x2 + 1) = w4 at hF hS hx
  by_cases hc5 : w4.1 = (-1)
  · rw [if_pos hc5] at hF hS
    subst hF
    exact hx
  · rw [if_neg hc5] at hF hS
    obtain ⟨hs6, hS⟩ := hS
    rw [mbind_eq] at hF hS
    generalize hq_w7 : F_Ck_typeIn cs w4.2 w4.1 = w7 at hF hS
    by_cases hc8 : w7 = 1
    · rw [if_pos hc8] at hF hS
      obtain ⟨ho9, hS⟩ := hS
      obtain ⟨ho10, hS⟩ := hS
      obtain ⟨hs11, hS⟩ := hS
      rw [mbind_eq] at hF hS
      replace hx := Ext.then hM hx (hL _ a0 (cI w4.2 (x1.getD 0) 5) (x2 + 1) hx.ok hs11) (by decide) (by decide) (by decide)
      generalize Lf w4.2 a0 (cI w4.2 (x1.getD 0) 5) (x2 + 1) = w12 at hF hS hx
      by_cases hc13 : w12.1 = (-1)
      · rw [if_pos hc13] at hF hS
        by_cases hc38 : ((-1) : Int32) = (-1)
        · rw [if_pos hc38] at hF hS
          subst hF
          exact hx
        · rw [if_neg hc38] at hF hS
          obtain ⟨hs39, hS⟩ := hS
          rw [mbind_eq] at hF hS
          generalize hq_w40 : F_Ck_typeIn cs w12.2 (-1) = w40 at hF hS
          obtain ⟨hs41, hS⟩ := hS
          rw [mbind_eq] at hF hS
          generalize hq_w42 : F_Ck_typeIn cs w12.2 w12.1 = w42 at hF hS
          by_cases hc43 : w40 = w42
          · rw [if_pos hc43] at hF hS
            obtain ⟨hs44, hS⟩ := hS
            rw [mbind_eq] at hF hS
            obtain ⟨hs46, hS⟩ := hS
            rw [mbind_eq] at hF hS
            generalize hq_w47 : F_Ck_effectsIn cs w12.2 w4.1 = w47 at hF hS
            obtain ⟨hs48, hS⟩ := hS
            rw [mbind_eq] at hF hS
            generalize hq_w49 : F_Ck_effectsIn cs w12.2 w12.1 = w49 at hF hS
            obtain ⟨hs50, hS⟩ := hS
            rw [mbind_eq] at hF hS
            generalize hq_w51 : F_Ck_effectsIn cs w12.2 (-1) = w51 at hF hS
            obtain ⟨hs52, hS⟩ := hS
            rw [mbind_eq] at hF hS
            generalize hq_w53 : F_Ck_seenAs cs w12.2 w42 ((w47 ||| w49) ||| w51) = w53 at hF hS
            subst hF
            exact hx
          · rw [if_neg hc43] at hF hS
            obtain ⟨ho54, hS⟩ := hS
            obtain ⟨ho55, hS⟩ := hS
            obtain ⟨hs56, hS⟩ := hS
            rw [mbind_eq] at hF hS
            replace hx := Ext.then hM hx (x_Ck_blame cs lim _ a0 6 (cI w12.2 (x1.getD 0) 6) hx.ok hs56) (by decide) (by decide) (by decide)
            generalize F_Ck_blame cs w12.2 a0 6 (cI w12.2 (x1.getD 0) 6) = w57 at hF hS hx
            subst hF
            exact hx
      · rw [if_neg hc13] at hF hS
        obtain ⟨ho14, hS⟩ := hS
        obtain ⟨ho15, hS⟩ := hS
        obtain ⟨hs16, hS⟩ := hS
        rw [mbind_eq] at hF hS
        replace hx := Ext.then hM hx (hL _ a0 (cI w12.2 (x1.getD 0) 6) (x2 + 1) hx.ok hs16) (by decide) (by decide) (by decide)
        generalize Lf w12.2 a0 (cI w12.2 (x1.getD 0) 6) (x2 + 1) = w17 at hF hS hx
        by_cases hc18 : w17.1 = (-1)
        · rw [if_pos hc18] at hF hS
          subst hF
          exact hx
        · rw [if_neg hc18] at hF hS
          obtain ⟨hs19, hS⟩ := hS
          rw [mbind_eq] at hF hS
          generalize hq_w20 : F_Ck_typeIn cs w17.2 w17.1 = w20 at hF hS
          obtain ⟨hs21, hS⟩ := hS
          rw [mbind_eq] at hF hS
          generalize hq_w22 : F_Ck_typeIn cs w17.2 w12.1 = w22 at hF hS
          by_cases hc23 : w20 = w22
          · rw [if_pos hc23] at hF hS
            obtain ⟨hs24, hS⟩ := hS
            rw [mbind_eq] at hF hS
            obtain ⟨hs26, hS⟩ := hS
            rw [mbind_eq] at hF hS
            generalize hq_w27 : F_Ck_effectsIn cs w17.2 w4.1 = w27 at hF hS
            obtain ⟨hs28, hS⟩ := hS
            rw [mbind_eq] at hF hS
            generalize hq_w29 : F_Ck_effectsIn cs w17.2 w12.1 = w29 at hF hS
            obtain ⟨hs30, hS⟩ := hS
            rw [mbind_eq] at hF hS
            generalize hq_w31 : F_Ck_effectsIn cs w17.2 w17.1 = w31 at hF hS
            obtain ⟨hs32, hS⟩ := hS
            rw [mbind_eq] at hF hS
            generalize hq_w33 : F_Ck_seenAs cs w17.2 w22 ((w27 ||| w29) ||| w31) = w33 at hF hS
            subst hF
            exact hx
          · rw [if_neg hc23] at hF hS
            obtain ⟨ho34, hS⟩ := hS
            obtain ⟨ho35, hS⟩ := hS
            obtain ⟨hs36, hS⟩ := hS
            rw [mbind_eq] at hF hS
            replace hx := Ext.then hM hx (x_Ck_blame cs lim _ a0 6 (cI w17.2 (x1.getD 0) 6) hx.ok hs36) (by decide) (by decide) (by decide)
            generalize F_Ck_blame cs w17.2 a0 6 (cI w17.2 (x1.getD 0) 6) = w37 at hF hS hx
            subst hF
            exact hx
    · rw [if_neg hc8] at hF hS
      obtain ⟨ho58, hS⟩ := hS
      obtain ⟨ho59, hS⟩ := hS
      obtain ⟨hs60, hS⟩ := hS
      rw [mbind_eq] at hF hS
      replace hx := Ext.then hM hx (x_Ck_blame cs lim _ a0 6 (cI w4.2 (x1.getD 0) 4) hx.ok hs60) (by decide) (by decide) (by decide)
      generalize F_Ck_blame cs w4.2 a0 6 (cI w4.2 (x1.getD 0) 4) = w61 at hF hS hx
      subst hF
      exact hx
theorem x_Ck_lookFn (cs : Nat → ClassId) (lim : Nat × Nat) (n : Nat) (Lf : gMem → Nat → Int32 → Int32 → Int32 × gMem) (Ls : gMem → Nat → Int32 → Int32 → Prop) (hL : ∀ (M : gMem) (a0 : Nat) (x1 x2 : Int32), MOk M → Ls M a0 x1 x2 → Ext [(1, 4), (2, 0), (6, 5), (6, 6)] [(2, 0), (6, 4)] true M (Lf M a0 x1 x2).2) (M : gMem) (a0 : Nat) (x1 : Option Nat) (x2 : Int32) (hM : MOk M) (hS : S_Ck_lookFn cs lim n Lf Ls M a0 x1 x2) : Ext [(1, 4), (2, 0), (6, 5), (6, 6)] [(2, 0), (6, 4)] true M ((F_Ck_lookFn cs n Lf M a0 x1 x2).2) := by
  generalize hF : F_Ck_lookFn cs n Lf M a0 x1 x2 = Fv
  unfold F_Ck_lookFn at hF
  unfold S_Ck_lookFn at hS
  have hx : Ext [(1, 4), (2, 0), (6, 5), (6, 6)] [(2, 0), (6, 4)] true M M := Ext.rf hM
  obtain ⟨ho1, hS⟩ := hS
  obtain ⟨ho2, hS⟩ := hS
  obtain ⟨ho3, hS⟩ := hS
  obtain ⟨hs4, hS⟩ := hS
  rw [mbind_eq] at hF hS
  replace hx := Ext.then hM hx (x_Ck_rename cs lim _ a0 (cI M (x1.getD 0) 2) (cI M (x1.getD 0) 1) hx.ok hs4) (by decide) (by decide) (by decide)
  generalize F_Ck_rename cs M a0 (cI M (x1.getD 0) 2) (cI M (x1.getD 0) 1) = w5 at hF hS hx
  obtain ⟨ho6, hS⟩ := hS
  obtain ⟨ho7, hS⟩ := hS
  obtain ⟨hs8, hS⟩ := hS
  rw [mbind_eq] at hF hS
  replace hx := Ext.then hM hx (hL _ a0 (cI w5.2 (x1.getD 0) 4) (x2 + 1) hx.ok hs8) (by decide) (by decide) (by decide)
  generalize Lf w5.2 a0 (cI w5.2 (x1.getD 0) 4) (x2 + 1) = w9 at hF hS hx
  obtain ⟨ho10, hS⟩ := hS
  obtain ⟨ho11, hS⟩ := hS
  obtain ⟨hs12, hS⟩ := hS
  rw [mbind_eq] at hF hS
  replace hx := Ext.then hM hx (x_Ck_rename cs lim _ a0 (cI w9.2 (x1.getD 0) 2) w5.1 hx.ok hs12) (by decide) (by decide) (by decide)
  generalize F_Ck_rename cs w9.2 a0 (cI w9.2 (x1.getD 0) 2) w5.1 = w13 at hF hS hx
  by_cases hc14 : w9.1 = (-1)
  · rw [if_pos hc14] at hF hS
    subst hF
    exact hx
  · rw [if_neg hc14] at hF hS
    obtain ⟨ho15, hS⟩ := hS
    obtain ⟨ho16, hS⟩ := hS
    obtain ⟨hs17, hS⟩ := hS
    rw [mbind_eq] at hF hS
    generalize hq_w18 : F_Ck_typeIn cs w13.2 w9.1 = w18 at hF hS
    obtain ⟨hs19, hS⟩ := hS
    rw [mbind_eq] at hF hS
    generalize hq_w20 : F_Ck_effectsIn cs w13.2 w9.1 = w20 at hF hS
    obtain ⟨ho21, hS⟩ := hS
    obtain ⟨hs22, hS⟩ := hS
    rw [mbind_eq] at hF hS
    replace hx := Ext.then hM hx (x_Ty_numberOf cs lim n _ ((cQ w13.2 a0 1).getD 0) (cI w13.2 (x1.getD 0) 1) w18 w20 hx.ok hs22) (by decide) (by decide) (by decide)
    generalize F_Ty_numberOf cs n w13.2 ((cQ w13.2 a0 1).getD 0) (cI w13.2 (x1.getD 0) 1) w18 w20 = w23 at hF hS hx
    obtain ⟨hs24, hS⟩ := hS
    rw [mbind_eq] at hF hS
    generalize hq_w25 : F_Ck_seenAs cs w23.2 w23.1 0 = w25 at hF hS
    subst hF
    exact hx
theorem x_Ck_clauseKeepsTo (cs : Nat → ClassId) (lim : Nat × Nat) (n : Nat) (Lf : gMem → Nat → Int32 → Int32 → Int32 × gMem) (Ls : gMem → Nat → Int32 → Int32 → Prop) (hL : ∀ (M : gMem) (a0 : Nat) (x1 x2 : Int32), MOk M → Ls M a0 x1 x2 → Ext [(1, 4), (2, 0), (6, 5), (6, 6)] [(2, 0), (6, 4)] true M (Lf M a0 x1 x2).2) (M : gMem) (a0 : Nat) (x1 : Option Nat) (x2 : Int32) (x3 : Int32) (x4 : Int32) (hM : MOk M) (hS : S_Ck_clauseKeepsTo cs lim n Lf Ls M a0 x1 x2 x3 x4) : Ext [(1, 4), (2, 0), (6, 5), (6, 6)] [(2, 0), (6, 4)] true M ((F_Ck_clauseKeepsTo cs n Lf M a0 x1 x2 x3 x4).2) := by
  generalize hF : F_Ck_clauseKeepsTo cs n Lf M a0 x1 x2 x3 x4 = Fv
  unfold F_Ck_clauseKeepsTo at hF
  unfold S_Ck_clauseKeepsTo at hS
  have hx : Ext [(1, 4), (2, 0), (6, 5), (6, 6)] [(2, 0), (6, 4)] true M M := Ext.rf hM
  obtain ⟨ho1, hS⟩ := hS
  by_cases hc2 : (cI M (x1.getD 0) 0) < 0
  · rw [if_pos hc2] at hF hS
    subst hF
    exact hx
  · rw [if_neg hc2] at hF hS
    by_cases hc3 : (cI M (x1.getD 0) 0) < 8
    · rw [if_pos hc3] at hF hS
      obtain ⟨ho4, hS⟩ := hS
      obtain ⟨ho5, hS⟩ := hS
      obtain ⟨ha6, hS⟩ := hS
      obtain ⟨hi7, hS⟩ := hS
      obtain ⟨ho8, hS⟩ := hS
      obtain ⟨hs9, hS⟩ := hS
      rw [mbind_eq] at hF hS
      replace hx := Ext.then hM hx (x_Ty_numberOf cs lim n _ ((cQ M a0 1).getD 0) (aF M ((cQ M a0 3).getD 0) (cI M (x1.getD 0) 0).toNatClampNeg) x2 x3 hx.ok hs9) (by decide) (by decide) (by decide)
      generalize F_Ty_numberOf cs n M ((cQ M a0 1).getD 0) (aF M ((cQ M a0 3).getD 0) (cI M (x1.getD 0) 0).toNatClampNeg) x2 x3 = w10 at hF hS hx
      obtain ⟨ho11, hS⟩ := hS
      obtain ⟨ho12, hS⟩ := hS
      obtain ⟨ha13, hS⟩ := hS
      obtain ⟨hi14, hS⟩ := hS
      obtain ⟨ho15, hS⟩ := hS
      obtain ⟨hs16, hS⟩ := hS
      rw [mbind_eq] at hF hS
      replace hx := Ext.then hM hx (x_Ck_rename cs lim _ a0 (cI w10.2 (x1.getD 0) 1) (aF w10.2 ((cQ w10.2 a0 2).getD 0) (cI M (x1.getD 0) 0).toNatClampNeg) hx.ok hs16) (by decide) (by decide) (by decide)
      generalize F_Ck_rename cs w10.2 a0 (cI w10.2 (x1.getD 0) 1) (aF w10.2 ((cQ w10.2 a0 2).getD 0) (cI M (x1.getD 0) 0).toNatClampNeg) = w17 at hF hS hx
      obtain ⟨ho18, hS⟩ := hS
      obtain ⟨ho19, hS⟩ := hS
      obtain ⟨hs20, hS⟩ := hS
      rw [mbind_eq] at hF hS
      replace hx := Ext.then hM hx (x_Ck_rename cs lim _ a0 (cI w17.2 (x1.getD 0) 2) w10.1 hx.ok hs20) (by decide) (by decide) (by decide)
      generalize F_Ck_rename cs w17.2 a0 (cI w17.2 (x1.getD 0) 2) w10.1 = w21 at hF hS hx
      obtain ⟨ho22, hS⟩ := hS
      obtain ⟨ho23, hS⟩ := hS
      obtain ⟨hs24, hS⟩ := hS
      rw [mbind_eq] at hF hS
      replace hx := Ext.then hM hx (hL _ a0 (cI w21.2 (x1.getD 0) 3) (x4 + 1) hx.ok hs24) (by decide) (by decide) (by decide)
      generalize Lf w21.2 a0 (cI w21.2 (x1.getD 0) 3) (x4 + 1) = w25 at hF hS hx
      obtain ⟨ho26, hS⟩ := hS
      obtain ⟨ho27, hS⟩ := hS
      obtain ⟨hs28, hS⟩ := hS
      rw [mbind_eq] at hF hS
      replace hx := Ext.then hM hx (x_Ck_rename cs lim _ a0 (cI w25.2 (x1.getD 0) 2) w21.1 hx.ok hs28) (by decide) (by decide) (by decide)
      generalize F_Ck_rename cs w25.2 a0 (cI w25.2 (x1.getD 0) 2) w21.1 = w29 at hF hS hx
      obtain ⟨ho30, hS⟩ := hS
      obtain ⟨ho31, hS⟩ := hS
      obtain ⟨hs32, hS⟩ := hS
      rw [mbind_eq] at hF hS
      replace hx := Ext.then hM hx (x_Ck_rename cs lim _ a0 (cI w29.2 (x1.getD 0) 1) w17.1 hx.ok hs32) (by decide) (by decide) (by decide)
      generalize F_Ck_rename cs w29.2 a0 (cI w29.2 (x1.getD 0) 1) w17.1 = w33 at hF hS hx
      by_cases hc34 : w25.1 = (-1)
      · rw [if_pos hc34] at hF hS
        subst hF
        exact hx
      · rw [if_neg hc34] at hF hS
        obtain ⟨ho35, hS⟩ := hS
        obtain ⟨hs36, hS⟩ := hS
        rw [mbind_eq] at hF hS
        generalize hq_w37 : F_Ck_typeIn cs w33.2 w25.1 = w37 at hF hS
        obtain ⟨ho38, hS⟩ := hS
        obtain ⟨hs39, hS⟩ := hS
        rw [mbind_eq] at hF hS
        generalize hq_w40 : F_Ty_suits cs w33.2 ((cQ w33.2 a0 1).getD 0) w37 x2 = w40 at hF hS
        by_cases hc41 : w40 = 0
        · rw [if_pos hc41] at hF hS
          obtain ⟨ho51, hS⟩ := hS
          obtain ⟨ho52, hS⟩ := hS
          obtain ⟨hs53, hS⟩ := hS
          rw [mbind_eq] at hF hS
          replace hx := Ext.then hM hx (x_Ck_blame cs lim _ a0 6 (cI w33.2 (x1.getD 0) 3) hx.ok hs53) (by decide) (by decide) (by decide)
          generalize F_Ck_blame cs w33.2 a0 6 (cI w33.2 (x1.getD 0) 3) = w54 at hF hS hx
          subst hF
          exact hx
        · rw [if_neg hc41] at hF hS
          obtain ⟨hs42, hS⟩ := hS
          rw [mbind_eq] at hF hS
          generalize hq_w43 : F_Ck_effectsIn cs w33.2 w25.1 = w43 at hF hS
          obtain ⟨hs44, hS⟩ := hS
          rw [mbind_eq] at hF hS
          generalize hq_w45 : F_N_isWithin cs w33.2 w43 x3 = w45 at hF hS
          by_cases hc46 : w45 = 0
          · rw [if_pos hc46] at hF hS
            obtain ⟨ho47, hS⟩ := hS
            obtain ⟨ho48, hS⟩ := hS
            obtain ⟨hs49, hS⟩ := hS
            rw [mbind_eq] at hF hS
            replace hx := Ext.then hM hx (x_Ck_blame cs lim _ a0 7 (cI w33.2 (x1.getD 0) 3) hx.ok hs49) (by decide) (by decide) (by decide)
            generalize F_Ck_blame cs w33.2 a0 7 (cI w33.2 (x1.getD 0) 3) = w50 at hF hS hx
            subst hF
            exact hx
          · rw [if_neg hc46] at hF hS
            subst hF
            exact hx
    · rw [if_neg hc3] at hF hS
      subst hF
      exact hx
theorem xw_Ck_lookHandle_111 (cs : Nat → ClassId) (lim : Nat × Nat) (Lf : gMem → Nat → Int32 → Int32 → Int32 × gMem) (Ls : gMem → Nat → Int32 → Int32 → Prop) (hL : ∀ (M : gMem) (a0 : Nat) (x1 x2 : Int32), MOk M → Ls M a0 x1 x2 → Ext [(1, 4), (2, 0), (6, 5), (6, 6)] [(2, 0), (6, 4)] true M (Lf M a0 x1 x2).2) : ∀ (n : Nat) (M : gMem) (a0 : Nat) (x1 : Option Nat) (x2 : Int32) (x3 : Int32) (x4 : Int32) (x5 : Int32) (x6 : Int32) (x7 : Int32) (x8 : Int32) (x9 : Int32) (Fv : Int32 × gMem) (hM : MOk M) (hS : S_Ck_lookHandle_111 cs lim Lf Ls n M a0 x1 x2 x3 x4 x5 x6 x7 x8 x9) (hF : F_Ck_lookHandle_111 cs Lf n M a0 x1 x2 x3 x4 x5 x6 x7 x8 x9 = Fv), Ext [(1, 4), (2, 0), (6, 5), (6, 6)] [(2, 0), (6, 4)] true M Fv.2 := by
  intro n
  induction n with
  | zero =>
    intro M a0 x1 x2 x3 x4 x5 x6 x7 x8 x9 Fv hM hS hF
    exact hS.elim
  | succ n ih =>
    intro M a0 x1 x2 x3 x4 x5 x6 x7 x8 x9 Fv hM hS hF
    simp only [S_Ck_lookHandle_111] at hS
    simp only [F_Ck_lookHandle_111] at hF
    have hx : Ext [(1, 4), (2, 0), (6, 5), (6, 6)] [(2, 0), (6, 4)] true M M := Ext.rf hM
    obtain ⟨ho1, hS⟩ := hS
    by_cases hc2 : (cI M (x1.getD 0) 8) ≤ x9
    · rw [if_pos hc2] at hF hS
      obtain ⟨hs3, hS⟩ := hS
      rw [mbind_eq] at hF hS
      generalize hq_w4 : F_Ck_effectsIn cs M x3 = w4 at hF hS
      obtain ⟨hs5, hS⟩ := hS
      rw [mbind_eq] at hF hS
      generalize hq_w6 : F_N_isWithin cs M (w4 &&& (x8 ^^^ (-1))) x6 = w6 at hF hS
      by_cases hc7 : w6 = 0
      · rw [if_pos hc7] at hF hS
        obtain ⟨ho10, hS⟩ := hS
        obtain ⟨ho11, hS⟩ := hS
        obtain ⟨hs12, hS⟩ := hS
        rw [mbind_eq] at hF hS
        replace hx := Ext.then hM hx (x_Ck_blame cs lim _ a0 7 (cI M (x1.getD 0) 4) hx.ok hs12) (by decide) (by decide) (by decide)
        generalize F_Ck_blame cs M a0 7 (cI M (x1.getD 0) 4) = w13 at hF hS hx
        subst hF
        exact hx
      · rw [if_neg hc7] at hF hS
        obtain ⟨hs8, hS⟩ := hS
        rw [mbind_eq] at hF hS
        generalize hq_w9 : F_Ck_seenAs cs M x7 x6 = w9 at hF hS
        subst hF
        exact hx
    · rw [if_neg hc2] at hF hS
      obtain ⟨ho14, hS⟩ := hS
      obtain ⟨ho15, hS⟩ := hS
      obtain ⟨hs16, hS⟩ := hS
      rw [mbind_eq] at hF hS
      generalize hq_w17 : F_Ns_clauseAt cs M ((cQ M a0 0).getD 0) x9 = w17 at hF hS
      obtain ⟨ho18, hS⟩ := hS
      by_cases hc19 : (x8 &&& (1 <<< ((cI M (w17.getD 0) 0) &&& 31))) = 0
      · rw [if_pos hc19] at hF hS
        obtain ⟨ho20, hS⟩ := hS
        obtain ⟨hs21, hS⟩ := hS
        rw [mbind_eq] at hF hS
        replace hx := Ext.then hM hx (x_Ck_clauseKeepsTo cs lim n Lf Ls hL _ a0 w17 x7 x6 x2 hx.ok hs21) (by decide) (by decide) (by decide)
        generalize F_Ck_clauseKeepsTo cs n Lf M a0 w17 x7 x6 x2 = w22 at hF hS hx
        by_cases hc23 : w22.1 = 0
        · rw [if_pos hc23] at hF hS
          subst hF
          exact hx
        · rw [if_neg hc23] at hF hS
          exact Ext.trans hM hx (ih w22.2 a0 x1 x2 x3 x4 x5 x6 x7 (x8 ||| (1 <<< ((cI M (w17.getD 0) 0) &&& 31))) (x9 + 1) Fv hx.ok hS hF)
      · rw [if_neg hc19] at hF hS
        obtain ⟨ho24, hS⟩ := hS
        obtain ⟨ho25, hS⟩ := hS
        obtain ⟨hs26, hS⟩ := hS
        rw [mbind_eq] at hF hS
        replace hx := Ext.then hM hx (x_Ck_blame cs lim _ a0 8 (cI M (w17.getD 0) 3) hx.ok hs26) (by decide) (by decide) (by decide)
        generalize F_Ck_blame cs M a0 8 (cI M (w17.getD 0) 3) = w27 at hF hS hx
        subst hF
        exact hx
theorem x_Ck_lookHandle (cs : Nat → ClassId) (lim : Nat × Nat) (n : Nat) (Lf : gMem → Nat → Int32 → Int32 → Int32 × gMem) (Ls : gMem → Nat → Int32 → Int32 → Prop) (hL : ∀ (M : gMem) (a0 : Nat) (x1 x2 : Int32), MOk M → Ls M a0 x1 x2 → Ext [(1, 4), (2, 0), (6, 5), (6, 6)] [(2, 0), (6, 4)] true M (Lf M a0 x1 x2).2) (M : gMem) (a0 : Nat) (x1 : Option Nat) (x2 : Int32) (hM : MOk M) (hS : S_Ck_lookHandle cs lim n Lf Ls M a0 x1 x2) : Ext [(1, 4), (2, 0), (6, 5), (6, 6)] [(2, 0), (6, 4)] true M ((F_Ck_lookHandle cs n Lf M a0 x1 x2).2) := by
  generalize hF : F_Ck_lookHandle cs n Lf M a0 x1 x2 = Fv
  unfold F_Ck_lookHandle at hF
  unfold S_Ck_lookHandle at hS
  have hx : Ext [(1, 4), (2, 0), (6, 5), (6, 6)] [(2, 0), (6, 4)] true M M := Ext.rf hM
  obtain ⟨ho1, hS⟩ := hS
  obtain ⟨ho2, hS⟩ := hS
  obtain ⟨hs3, hS⟩ := hS
  rw [mbind_eq] at hF hS
  replace hx := Ext.then hM hx (hL _ a0 (cI M (x1.getD 0) 4) (x2 + 1) hx.ok hs3) (by decide) (by decide) (by decide)
  generalize Lf M a0 (cI M (x1.getD 0) 4) (x2 + 1) = w4 at hF hS hx
  by_cases hc5 : w4.1 = (-1)
  · rw [if_pos hc5] at hF hS
    subst hF
    exact hx
  · rw [if_neg hc5] at hF hS
    obtain ⟨ho6, hS⟩ := hS
    obtain ⟨hs7, hS⟩ := hS
    rw [mbind_eq] at hF hS
    generalize hq_w8 : F_Ck_typeIn cs w4.2 w4.1 = w8 at hF hS
    obtain ⟨ho9, hS⟩ := hS
    obtain ⟨hs10, hS⟩ := hS
    rw [mbind_eq] at hF hS
    replace hx := Ext.then hM hx (x_Ck_rename cs lim _ a0 (cI w4.2 (x1.getD 0) 2) w8 hx.ok hs10) (by decide) (by decide) (by decide)
    generalize F_Ck_rename cs w4.2 a0 (cI w4.2 (x1.getD 0) 2) w8 = w11 at hF hS hx
    obtain ⟨ho12, hS⟩ := hS
    obtain ⟨ho13, hS⟩ := hS
    obtain ⟨hs14, hS⟩ := hS
    rw [mbind_eq] at hF hS
    replace hx := Ext.then hM hx (hL _ a0 (cI w11.2 (x1.getD 0) 5) (x2 + 1) hx.ok hs14) (by decide) (by decide) (by decide)
    generalize Lf w11.2 a0 (cI w11.2 (x1.getD 0) 5) (x2 + 1) = w15 at hF hS hx
    obtain ⟨ho16, hS⟩ := hS
    obtain ⟨ho17, hS⟩ := hS
    obtain ⟨hs18, hS⟩ := hS
    rw [mbind_eq] at hF hS
    replace hx := Ext.then hM hx (x_Ck_rename cs lim _ a0 (cI w15.2 (x1.getD 0) 2) w11.1 hx.ok hs18) (by decide) (by decide) (by decide)
    generalize F_Ck_rename cs w15.2 a0 (cI w15.2 (x1.getD 0) 2) w11.1 = w19 at hF hS hx
    by_cases hc20 : w15.1 = (-1)
    · rw [if_pos hc20] at hF hS
      subst hF
      exact hx
    · rw [if_neg hc20] at hF hS
      obtain ⟨ho21, hS⟩ := hS
      obtain ⟨hs22, hS⟩ := hS
      rw [mbind_eq] at hF hS
      generalize hq_w23 : F_Ck_typeIn cs w19.2 w15.1 = w23 at hF hS
      obtain ⟨hs24, hS⟩ := hS
      rw [mbind_eq] at hF hS
      generalize hq_w25 : F_Ck_effectsIn cs w19.2 w15.1 = w25 at hF hS
      obtain ⟨hs26, hS⟩ := hS
      rw [mbind_eq] at hF hS
      generalize hq_w27 : F_N_isWithin cs w19.2 w25 (cI w19.2 (x1.getD 0) 1) = w27 at hF hS
      by_cases hc28 : w27 = 0
      · rw [if_pos hc28] at hF hS
        obtain ⟨ho30, hS⟩ := hS
        obtain ⟨ho31, hS⟩ := hS
        obtain ⟨hs32, hS⟩ := hS
        rw [mbind_eq] at hF hS
        replace hx := Ext.then hM hx (x_Ck_blame cs lim _ a0 7 (cI w19.2 (x1.getD 0) 5) hx.ok hs32) (by decide) (by decide) (by decide)
        generalize F_Ck_blame cs w19.2 a0 7 (cI w19.2 (x1.getD 0) 5) = w33 at hF hS hx
        subst hF
        exact hx
      · rw [if_neg hc28] at hF hS
        obtain ⟨ho29, hS⟩ := hS
        exact Ext.trans hM hx (xw_Ck_lookHandle_111 cs lim Lf Ls hL n w19.2 a0 x1 x2 w4.1 w11.1 w15.1 (cI w19.2 (x1.getD 0) 1) w23 0 (cI w19.2 (x1.getD 0) 7) Fv hx.ok hS hF)
theorem x_Ck_lookTwo (cs : Nat → ClassId) (lim : Nat × Nat) (n : Nat) (Lf : gMem → Nat → Int32 → Int32 → Int32 × gMem) (Ls : gMem → Nat → Int32 → Int32 → Prop) (hL : ∀ (M : gMem) (a0 : Nat) (x1 x2 : Int32), MOk M → Ls M a0 x1 x2 → Ext [(1, 4), (2, 0), (6, 5), (6, 6)] [(2, 0), (6, 4)] true M (Lf M a0 x1 x2).2) (M : gMem) (a0 : Nat) (x1 : Option Nat) (x2 : Int32) (hM : MOk M) (hS : S_Ck_lookTwo cs lim n Lf Ls M a0 x1 x2) : Ext [(1, 4), (2, 0), (6, 5), (6, 6)] [(2, 0), (6, 4)] true M ((F_Ck_lookTwo cs n Lf M a0 x1 x2).2) := by
  generalize hF : F_Ck_lookTwo cs n Lf M a0 x1 x2 = Fv
  unfold F_Ck_lookTwo at hF
  unfold S_Ck_lookTwo at hS
  have hx : Ext [(1, 4), (2, 0), (6, 5), (6, 6)] [(2, 0), (6, 4)] true M M := Ext.rf hM
  obtain ⟨ho1, hS⟩ := hS
  obtain ⟨ho2, hS⟩ := hS
  obtain ⟨hs3, hS⟩ := hS
  rw [mbind_eq] at hF hS
  replace hx := Ext.then hM hx (hL _ a0 (cI M (x1.getD 0) 4) (x2 + 1) hx.ok hs3) (by decide) (by decide) (by decide)
  generalize Lf M a0 (cI M (x1.getD 0) 4) (x2 + 1) = w4 at hF hS hx
  by_cases hc5 : w4.1 = (-1)
  · rw [if_pos hc5] at hF hS
    by_cases hc39 : ((-1) : Int32) = (-1)
    · rw [if_pos hc39] at hF hS
      subst hF
      exact hx
    · rw [if_neg hc39] at hF hS
      obtain ⟨hs40, hS⟩ := hS
      rw [mbind_eq] at hF hS
      generalize hq_w41 : F_Ck_typeIn cs w4.2 w4.1 = w41 at hF hS
      by_cases hc42 : w41 = 0
      · rw [if_pos hc42] at hF hS
        obtain ⟨hs43, hS⟩ := hS
        rw [mbind_eq] at hF hS
        generalize hq_w44 : F_Ck_typeIn cs w4.2 (-1) = w44 at hF hS
        by_cases hc45 : w44 = 0
        · rw [if_pos hc45] at hF hS
          obtain ⟨ho46, hS⟩ := hS
          by_cases hc47 : 2 < (cI w4.2 (x1.getD 0) 1)
          · rw [if_pos hc47] at hF hS
            obtain ⟨hs48, hS⟩ := hS
            rw [mbind_eq] at hF hS
            generalize hq_w49 : F_Ck_effectsIn cs w4.2 w4.1 = w49 at hF hS
            obtain ⟨hs50, hS⟩ := hS
            rw [mbind_eq] at hF hS
            generalize hq_w51 : F_Ck_effectsIn cs w4.2 (-1) = w51 at hF hS
            obtain ⟨hs52, hS⟩ := hS
            rw [mbind_eq] at hF hS
            generalize hq_w53 : F_Ck_seenAs cs w4.2 1 (w49 ||| w51) = w53 at hF hS
            subst hF
            exact hx
          · rw [if_neg hc47] at hF hS
            obtain ⟨hs54, hS⟩ := hS
            rw [mbind_eq] at hF hS
            generalize hq_w55 : F_Ck_effectsIn cs w4.2 w4.1 = w55 at hF hS
            obtain ⟨hs56, hS⟩ := hS
            rw [mbind_eq] at hF hS
            generalize hq_w57 : F_Ck_effectsIn cs w4.2 (-1) = w57 at hF hS
            obtain ⟨hs58, hS⟩ := hS
            rw [mbind_eq] at hF hS
            generalize hq_w59 : F_Ck_seenAs cs w4.2 0 (w55 ||| w57) = w59 at hF hS
            subst hF
            exact hx
        · rw [if_neg hc45] at hF hS
          obtain ⟨ho60, hS⟩ := hS
          obtain ⟨ho61, hS⟩ := hS
          obtain ⟨hs62, hS⟩ := hS
          rw [mbind_eq] at hF hS
          replace hx := Ext.then hM hx (x_Ck_blame cs lim _ a0 6 (cI w4.2 (x1.getD 0) 5) hx.ok hs62) (by decide) (by decide) (by decide)
          generalize F_Ck_blame cs w4.2 a0 6 (cI w4.2 (x1.getD 0) 5) = w63 at hF hS hx
          subst hF
          exact hx
      · rw [if_neg hc42] at hF hS
        obtain ⟨ho64, hS⟩ := hS
        obtain ⟨ho65, hS⟩ := hS
        obtain ⟨hs66, hS⟩ := hS
        rw [mbind_eq] at hF hS
        replace hx := Ext.then hM hx (x_Ck_blame cs lim _ a0 6 (cI w4.2 (x1.getD 0) 4) hx.ok hs66) (by decide) (by decide) (by decide)
        generalize F_Ck_blame cs w4.2 a0 6 (cI w4.2 (x1.getD 0) 4) = w67 at hF hS hx
        subst hF
        exact hx
  · rw [if_neg hc5] at hF hS
    obtain ⟨ho6, hS⟩ := hS
    obtain ⟨ho7, hS⟩ := hS
    obtain ⟨hs8, hS⟩ := hS
    rw [mbind_eq] at hF hS
    replace hx := Ext.then hM hx (hL _ a0 (cI w4.2 (x1.getD 0) 5) (x2 + 1) hx.ok hs8) (by decide) (by decide) (by decide)
    generalize Lf w4.2 a0 (cI w4.2 (x1.getD 0) 5) (x2 + 1) = w9 at hF hS hx
    by_cases hc10 : w9.1 = (-1)
    · rw [if_pos hc10] at hF hS
      subst hF
      exact hx
    · rw [if_neg hc10] at hF hS
      obtain ⟨hs11, hS⟩ := hS
      rw [mbind_eq] at hF hS
      generalize hq_w12 : F_Ck_typeIn cs w9.2 w4.1 = w12 at hF hS
      by_cases hc13 : w12 = 0
      · rw [if_pos hc13] at hF hS
        obtain ⟨hs14, hS⟩ := hS
        rw [mbind_eq] at hF hS
        generalize hq_w15 : F_Ck_typeIn cs w9.2 w9.1 = w15 at hF hS
        by_cases hc16 : w15 = 0
        · rw [if_pos hc16] at hF hS
          obtain ⟨ho17, hS⟩ := hS
          by_cases hc18 : 2 < (cI w9.2 (x1.getD 0) 1)
          · rw [if_pos hc18] at hF hS
            obtain ⟨hs19, hS⟩ := hS
            rw [mbind_eq] at hF hS
            generalize hq_w20 : F_Ck_effectsIn cs w9.2 w4.1 = w20 at hF hS
            obtain ⟨hs21, hS⟩ := hS
            rw [mbind_eq] at hF hS
            generalize hq_w22 : F_Ck_effectsIn cs w9.2 w9.1 = w22 at hF hS
            obtain ⟨hs23, hS⟩ := hS
            rw [mbind_eq] at hF hS
            generalize hq_w24 : F_Ck_seenAs cs w9.2 1 (w20 ||| w22) = w24 at hF hS
            subst hF
            exact hx
          · rw [if_neg hc18] at hF hS
            obtain ⟨hs25, hS⟩ := hS
            rw [mbind_eq] at hF hS
            generalize hq_w26 : F_Ck_effectsIn cs w9.2 w4.1 = w26 at hF hS
            obtain ⟨hs27, hS⟩ := hS
            rw [mbind_eq] at hF hS
            generalize hq_w28 : F_Ck_effectsIn cs w9.2 w9.1 = w28 at hF hS
            obtain ⟨hs29, hS⟩ := hS
            rw [mbind_eq] at hF hS
            generalize hq_w30 : F_Ck_seenAs cs w9.2 0 (w26 ||| w28) = w30 at hF hS
            subst hF
            exact hx
        · rw [if_neg hc16] at hF hS
          obtain ⟨ho31, hS⟩ := hS
          obtain ⟨ho32, hS⟩ := hS
          obtain ⟨hs33, hS⟩ := hS
          rw [mbind_eq] at hF hS
          replace hx := Ext.then hM hx (x_Ck_blame cs lim _ a0 6 (cI w9.2 (x1.getD 0) 5) hx.ok hs33) (by decide) (by decide) (by decide)
          generalize F_Ck_blame cs w9.2 a0 6 (cI w9.2 (x1.getD 0) 5) = w34 at hF hS hx
          subst hF
          exact hx
      · rw [if_neg hc13] at hF hS
        obtain ⟨ho35, hS⟩ := hS
        obtain ⟨ho36, hS⟩ := hS
        obtain ⟨hs37, hS⟩ := hS
        rw [mbind_eq] at hF hS
        replace hx := Ext.then hM hx (x_Ck_blame cs lim _ a0 6 (cI w9.2 (x1.getD 0) 4) hx.ok hs37) (by decide) (by decide) (by decide)
        generalize F_Ck_blame cs w9.2 a0 6 (cI w9.2 (x1.getD 0) 4) = w38 at hF hS hx
        subst hF
        exact hx
theorem x_Ck_lookCall (cs : Nat → ClassId) (lim : Nat × Nat) (n : Nat) (Lf : gMem → Nat → Int32 → Int32 → Int32 × gMem) (Ls : gMem → Nat → Int32 → Int32 → Prop) (hL : ∀ (M : gMem) (a0 : Nat) (x1 x2 : Int32), MOk M → Ls M a0 x1 x2 → Ext [(1, 4), (2, 0), (6, 5), (6, 6)] [(2, 0), (6, 4)] true M (Lf M a0 x1 x2).2) (M : gMem) (a0 : Nat) (x1 : Option Nat) (x2 : Int32) (hM : MOk M) (hS : S_Ck_lookCall cs lim n Lf Ls M a0 x1 x2) : Ext [(1, 4), (2, 0), (6, 5), (6, 6)] [(2, 0), (6, 4)] true M ((F_Ck_lookCall cs n Lf M a0 x1 x2).2) := by
  generalize hF : F_Ck_lookCall cs n Lf M a0 x1 x2 = Fv
  unfold F_Ck_lookCall at hF
  unfold S_Ck_lookCall at hS
  have hx : Ext [(1, 4), (2, 0), (6, 5), (6, 6)] [(2, 0), (6, 4)] true M M := Ext.rf hM
  obtain ⟨ho1, hS⟩ := hS
  obtain ⟨ho2, hS⟩ := hS
  obtain ⟨hs3, hS⟩ := hS
  rw [mbind_eq] at hF hS
  replace hx := Ext.then hM hx (hL _ a0 (cI M (x1.getD 0) 4) (x2 + 1) hx.ok hs3) (by decide) (by decide) (by decide)
  generalize Lf M a0 (cI M (x1.getD 0) 4) (x2 + 1) = w4 at hF hS hx
  by_cases hc5 : w4.1 = (-1)
  · rw [if_pos hc5] at hF hS
    subst hF
    exact hx
  · rw [if_neg hc5] at hF hS
    obtain ⟨hs6, hS⟩ := hS
    rw [mbind_eq] at hF hS
    generalize hq_w7 : F_Ck_typeIn cs w4.2 w4.1 = w7 at hF hS
    obtain ⟨ho8, hS⟩ := hS
    obtain ⟨ho9, hS⟩ := hS
    obtain ⟨hs10, hS⟩ := hS
    rw [mbind_eq] at hF hS
    generalize hq_w11 : F_Ty_isFunction cs w4.2 ((cQ w4.2 a0 1).getD 0) w7 = w11 at hF hS
    by_cases hc12 : w11 = 0
    · rw [if_pos hc12] at hF hS
      obtain ⟨ho47, hS⟩ := hS
      obtain ⟨ho48, hS⟩ := hS
      obtain ⟨hs49, hS⟩ := hS
      rw [mbind_eq] at hF hS
      replace hx := Ext.then hM hx (x_Ck_blame cs lim _ a0 6 (cI w4.2 (x1.getD 0) 4) hx.ok hs49) (by decide) (by decide) (by decide)
      generalize F_Ck_blame cs w4.2 a0 6 (cI w4.2 (x1.getD 0) 4) = w50 at hF hS hx
      subst hF
      exact hx
    · rw [if_neg hc12] at hF hS
      obtain ⟨ho13, hS⟩ := hS
      obtain ⟨ho14, hS⟩ := hS
      obtain ⟨hs15, hS⟩ := hS
      rw [mbind_eq] at hF hS
      replace hx := Ext.then hM hx (hL _ a0 (cI w4.2 (x1.getD 0) 5) (x2 + 1) hx.ok hs15) (by decide) (by decide) (by decide)
      generalize Lf w4.2 a0 (cI w4.2 (x1.getD 0) 5) (x2 + 1) = w16 at hF hS hx
      by_cases hc17 : w16.1 = (-1)
      · rw [if_pos hc17] at hF hS
        subst hF
        exact hx
      · rw [if_neg hc17] at hF hS
        obtain ⟨ho18, hS⟩ := hS
        obtain ⟨hs19, hS⟩ := hS
        rw [mbind_eq] at hF hS
        generalize hq_w20 : F_Ck_typeIn cs w16.2 w16.1 = w20 at hF hS
        obtain ⟨ho21, hS⟩ := hS
        obtain ⟨ho22, hS⟩ := hS
        obtain ⟨hs23, hS⟩ := hS
        rw [mbind_eq] at hF hS
        generalize hq_w24 : F_Ty_argumentOf cs w16.2 ((cQ w16.2 a0 1).getD 0) w7 = w24 at hF hS
        obtain ⟨ho25, hS⟩ := hS
        obtain ⟨hs26, hS⟩ := hS
        rw [mbind_eq] at hF hS
        generalize hq_w27 : F_Ty_suits cs w16.2 ((cQ w16.2 a0 1).getD 0) w20 w24 = w27 at hF hS
        by_cases hc28 : w27 = 0
        · rw [if_pos hc28] at hF hS
          obtain ⟨ho43, hS⟩ := hS
          obtain ⟨ho44, hS⟩ := hS
          obtain ⟨hs45, hS⟩ := hS
          rw [mbind_eq] at hF hS
          replace hx := Ext.then hM hx (x_Ck_blame cs lim _ a0 6 (cI w16.2 (x1.getD 0) 5) hx.ok hs45) (by decide) (by decide) (by decide)
          generalize F_Ck_blame cs w16.2 a0 6 (cI w16.2 (x1.getD 0) 5) = w46 at hF hS hx
          subst hF
          exact hx
        · rw [if_neg hc28] at hF hS
          obtain ⟨hs29, hS⟩ := hS
          rw [mbind_eq] at hF hS
          generalize hq_w30 : F_Ck_effectsIn cs w16.2 w4.1 = w30 at hF hS
          obtain ⟨hs31, hS⟩ := hS
          rw [mbind_eq] at hF hS
          generalize hq_w32 : F_Ck_effectsIn cs w16.2 w16.1 = w32 at hF hS
          obtain ⟨ho33, hS⟩ := hS
          obtain ⟨ho34, hS⟩ := hS
          obtain ⟨hs35, hS⟩ := hS
          rw [mbind_eq] at hF hS
          generalize hq_w36 : F_Ty_rowOf cs w16.2 ((cQ w16.2 a0 1).getD 0) w7 = w36 at hF hS
          obtain ⟨ho37, hS⟩ := hS
          obtain ⟨ho38, hS⟩ := hS
          obtain ⟨hs39, hS⟩ := hS
          rw [mbind_eq] at hF hS
          generalize hq_w40 : F_Ty_resultOf cs w16.2 ((cQ w16.2 a0 1).getD 0) w7 = w40 at hF hS
          obtain ⟨hs41, hS⟩ := hS
          rw [mbind_eq] at hF hS
          generalize hq_w42 : F_Ck_seenAs cs w16.2 w40 ((w30 ||| w32) ||| w36) = w42 at hF hS
          subst hF
          exact hx
theorem x_Ck_lookPerform (cs : Nat → ClassId) (lim : Nat × Nat) (n : Nat) (Lf : gMem → Nat → Int32 → Int32 → Int32 × gMem) (Ls : gMem → Nat → Int32 → Int32 → Prop) (hL : ∀ (M : gMem) (a0 : Nat) (x1 x2 : Int32), MOk M → Ls M a0 x1 x2 → Ext [(1, 4), (2, 0), (6, 5), (6, 6)] [(2, 0), (6, 4)] true M (Lf M a0 x1 x2).2) (M : gMem) (a0 : Nat) (x1 : Option Nat) (x2 : Int32) (hM : MOk M) (hS : S_Ck_lookPerform cs lim n Lf Ls M a0 x1 x2) : Ext [(1, 4), (2, 0), (6, 5), (6, 6)] [(2, 0), (6, 4)] true M ((F_Ck_lookPerform cs n Lf M a0 x1 x2).2) := by
  generalize hF : F_Ck_lookPerform cs n Lf M a0 x1 x2 = Fv
  unfold F_Ck_lookPerform at hF
  unfold S_Ck_lookPerform at hS
  have hx : Ext [(1, 4), (2, 0), (6, 5), (6, 6)] [(2, 0), (6, 4)] true M M := Ext.rf hM
  obtain ⟨ho1, hS⟩ := hS
  obtain ⟨ho2, hS⟩ := hS
  obtain ⟨hs3, hS⟩ := hS
  rw [mbind_eq] at hF hS
  replace hx := Ext.then hM hx (hL _ a0 (cI M (x1.getD 0) 4) (x2 + 1) hx.ok hs3) (by decide) (by decide) (by decide)
  generalize Lf M a0 (cI M (x1.getD 0) 4) (x2 + 1) = w4 at hF hS hx
  obtain ⟨ho5, hS⟩ := hS
  by_cases hc6 : w4.1 = (-1)
  · rw [if_pos hc6] at hF hS
    subst hF
    exact hx
  · rw [if_neg hc6] at hF hS
    by_cases hc7 : (cI w4.2 (x1.getD 0) 1) < 0
    · rw [if_pos hc7] at hF hS
      subst hF
      exact hx
    · rw [if_neg hc7] at hF hS
      by_cases hc8 : (cI w4.2 (x1.getD 0) 1) < 8
      · rw [if_pos hc8] at hF hS
        obtain ⟨ho9, hS⟩ := hS
        obtain ⟨hs10, hS⟩ := hS
        rw [mbind_eq] at hF hS
        generalize hq_w11 : F_Ck_typeIn cs w4.2 w4.1 = w11 at hF hS
        obtain ⟨ho12, hS⟩ := hS
        obtain ⟨ha13, hS⟩ := hS
        obtain ⟨hi14, hS⟩ := hS
        obtain ⟨ho15, hS⟩ := hS
        obtain ⟨hs16, hS⟩ := hS
        rw [mbind_eq] at hF hS
        generalize hq_w17 : F_Ty_suits cs w4.2 ((cQ w4.2 a0 1).getD 0) w11 (aF w4.2 ((cQ w4.2 a0 2).getD 0) (cI w4.2 (x1.getD 0) 1).toNatClampNeg) = w17 at hF hS
        by_cases hc18 : w17 = 0
        · rw [if_pos hc18] at hF hS
          obtain ⟨ho26, hS⟩ := hS
          obtain ⟨ho27, hS⟩ := hS
          obtain ⟨hs28, hS⟩ := hS
          rw [mbind_eq] at hF hS
          replace hx := Ext.then hM hx (x_Ck_blame cs lim _ a0 6 (cI w4.2 (x1.getD 0) 4) hx.ok hs28) (by decide) (by decide) (by decide)
          generalize F_Ck_blame cs w4.2 a0 6 (cI w4.2 (x1.getD 0) 4) = w29 at hF hS hx
          subst hF
          exact hx
        · rw [if_neg hc18] at hF hS
          obtain ⟨ho19, hS⟩ := hS
          obtain ⟨ha20, hS⟩ := hS
          obtain ⟨hi21, hS⟩ := hS
          obtain ⟨hs22, hS⟩ := hS
          rw [mbind_eq] at hF hS
          generalize hq_w23 : F_Ck_effectsIn cs w4.2 w4.1 = w23 at hF hS
          obtain ⟨hs24, hS⟩ := hS
          rw [mbind_eq] at hF hS
          generalize hq_w25 : F_Ck_seenAs cs w4.2 (aF w4.2 ((cQ w4.2 a0 3).getD 0) (cI w4.2 (x1.getD 0) 1).toNatClampNeg) (w23 ||| (1 <<< ((cI w4.2 (x1.getD 0) 1) &&& 31))) = w25 at hF hS
          subst hF
          exact hx
      · rw [if_neg hc8] at hF hS
        subst hF
        exact hx
theorem x_Ck_look (cs : Nat → ClassId) (lim : Nat × Nat) (n : Nat) : ∀ (d : Nat) (M : gMem) (a0 : Nat) (x1 x2 : Int32) (hM : MOk M) (hS : S_Ck_look cs lim n d M a0 x1 x2), Ext [(1, 4), (2, 0), (6, 5), (6, 6)] [(2, 0), (6, 4)] true M ((F_Ck_look cs n d M a0 x1 x2).2) := by
  intro d
  induction d with
  | zero =>
    intro M a0 x1 x2 hM hS
    exact hS.elim
  | succ d ih =>
    intro M a0 x1 x2 hM hS
    generalize hF : F_Ck_look cs n (d + 1) M a0 x1 x2 = Fv
    simp only [F_Ck_look] at hF
    simp only [S_Ck_look] at hS
    have hx : Ext [(1, 4), (2, 0), (6, 5), (6, 6)] [(2, 0), (6, 4)] true M M := Ext.rf hM
    by_cases hc1 : x2 ≤ 40
    · rw [if_pos hc1] at hF hS
      obtain ⟨ho2, hS⟩ := hS
      obtain ⟨ho3, hS⟩ := hS
      obtain ⟨hs4, hS⟩ := hS
      rw [mbind_eq] at hF hS
      generalize hq_w5 : F_Ns_at cs M ((cQ M a0 0).getD 0) x1 = w5 at hF hS
      obtain ⟨ho6, hS⟩ := hS
      by_cases hc7 : (cI M (w5.getD 0) 0) = 0
      · rw [if_pos hc7] at hF hS
        obtain ⟨hs8, hS⟩ := hS
        rw [mbind_eq] at hF hS
        generalize hq_w9 : F_Ck_seenAs cs M 0 0 = w9 at hF hS
        subst hF
        exact hx
      · rw [if_neg hc7] at hF hS
        by_cases hc10 : (cI M (w5.getD 0) 0) = 1
        · rw [if_pos hc10] at hF hS
          obtain ⟨hs11, hS⟩ := hS
          rw [mbind_eq] at hF hS
          generalize hq_w12 : F_Ck_seenAs cs M 1 0 = w12 at hF hS
          subst hF
          exact hx
        · rw [if_neg hc10] at hF hS
          by_cases hc13 : (cI M (w5.getD 0) 0) = 2
          · rw [if_pos hc13] at hF hS
            obtain ⟨hs14, hS⟩ := hS
            rw [mbind_eq] at hF hS
            generalize hq_w15 : F_Ck_seenAs cs M 2 0 = w15 at hF hS
            subst hF
            exact hx
          · rw [if_neg hc13] at hF hS
            by_cases hc16 : (cI M (w5.getD 0) 0) = 3
            · rw [if_pos hc16] at hF hS
              obtain ⟨ho17, hS⟩ := hS
              obtain ⟨hs18, hS⟩ := hS
              rw [mbind_eq] at hF hS
              replace hx := Ext.then hM hx (x_Ck_lookName cs lim _ a0 w5 x1 hx.ok hs18) (by decide) (by decide) (by decide)
              generalize F_Ck_lookName cs M a0 w5 x1 = w19 at hF hS hx
              subst hF
              exact hx
            · rw [if_neg hc16] at hF hS
              by_cases hc20 : (cI M (w5.getD 0) 0) = 4
              · rw [if_pos hc20] at hF hS
                obtain ⟨ho21, hS⟩ := hS
                obtain ⟨hs22, hS⟩ := hS
                rw [mbind_eq] at hF hS
                replace hx := Ext.then hM hx (x_Ck_lookLet cs lim n (F_Ck_look cs n d) (S_Ck_look cs lim n d) ih _ a0 w5 x2 hx.ok hs22) (by decide) (by decide) (by decide)
                generalize F_Ck_lookLet cs n (F_Ck_look cs n d) M a0 w5 x2 = w23 at hF hS hx
                subst hF
                exact hx
              · rw [if_neg hc20] at hF hS
                by_cases hc24 : (cI M (w5.getD 0) 0) = 5
                · rw [if_pos hc24] at hF hS
                  obtain ⟨ho25, hS⟩ := hS
                  obtain ⟨hs26, hS⟩ := hS
                  rw [mbind_eq] at hF hS
                  replace hx := Ext.then hM hx (x_Ck_lookRec cs lim n (F_Ck_look cs n d) (S_Ck_look cs lim n d) ih _ a0 w5 x2 hx.ok hs26) (by decide) (by decide) (by decide)
                  generalize F_Ck_lookRec cs n (F_Ck_look cs n d) M a0 w5 x2 = w27 at hF hS hx
                  subst hF
                  exact hx
                · rw [if_neg hc24] at hF hS
                  by_cases hc28 : (cI M (w5.getD 0) 0) = 6
                  · rw [if_pos hc28] at hF hS
                    obtain ⟨ho29, hS⟩ := hS
                    obtain ⟨hs30, hS⟩ := hS
                    rw [mbind_eq] at hF hS
                    replace hx := Ext.then hM hx (x_Ck_lookChoice cs lim n (F_Ck_look cs n d) (S_Ck_look cs lim n d) ih _ a0 w5 x2 hx.ok hs30) (by decide) (by decide) (by decide)
                    generalize F_Ck_lookChoice cs n (F_Ck_look cs n d) M a0 w5 x2 = w31 at hF hS hx
                    subst hF
                    exact hx
                  · rw [if_neg hc28] at hF hS
                    by_cases hc32 : (cI M (w5.getD 0) 0) = 7
                    · rw [if_pos hc32] at hF hS
                      obtain ⟨ho33, hS⟩ := hS
                      obtain ⟨hs34, hS⟩ := hS
                      rw [mbind_eq] at hF hS
                      replace hx := Ext.then hM hx (x_Ck_lookFn cs lim n (F_Ck_look cs n d) (S_Ck_look cs lim n d) ih _ a0 w5 x2 hx.ok hs34) (by decide) (by decide) (by decide)
                      generalize F_Ck_lookFn cs n (F_Ck_look cs n d) M a0 w5 x2 = w35 at hF hS hx
                      subst hF
                      exact hx
                    · rw [if_neg hc32] at hF hS
                      by_cases hc36 : (cI M (w5.getD 0) 0) = 8
                      · rw [if_pos hc36] at hF hS
                        obtain ⟨ho37, hS⟩ := hS
                        obtain ⟨hs38, hS⟩ := hS
                        rw [mbind_eq] at hF hS
                        replace hx := Ext.then hM hx (x_Ck_lookHandle cs lim n (F_Ck_look cs n d) (S_Ck_look cs lim n d) ih _ a0 w5 x2 hx.ok hs38) (by decide) (by decide) (by decide)
                        generalize F_Ck_lookHandle cs n (F_Ck_look cs n d) M a0 w5 x2 = w39 at hF hS hx
                        subst hF
                        exact hx
                      · rw [if_neg hc36] at hF hS
                        by_cases hc40 : (cI M (w5.getD 0) 0) = 9
                        · rw [if_pos hc40] at hF hS
                          obtain ⟨ho41, hS⟩ := hS
                          obtain ⟨hs42, hS⟩ := hS
                          rw [mbind_eq] at hF hS
                          replace hx := Ext.then hM hx (x_Ck_lookTwo cs lim n (F_Ck_look cs n d) (S_Ck_look cs lim n d) ih _ a0 w5 x2 hx.ok hs42) (by decide) (by decide) (by decide)
                          generalize F_Ck_lookTwo cs n (F_Ck_look cs n d) M a0 w5 x2 = w43 at hF hS hx
                          subst hF
                          exact hx
                        · rw [if_neg hc40] at hF hS
                          by_cases hc44 : (cI M (w5.getD 0) 0) = 10
                          · rw [if_pos hc44] at hF hS
                            obtain ⟨ho45, hS⟩ := hS
                            obtain ⟨hs46, hS⟩ := hS
                            rw [mbind_eq] at hF hS
                            replace hx := Ext.then hM hx (x_Ck_lookCall cs lim n (F_Ck_look cs n d) (S_Ck_look cs lim n d) ih _ a0 w5 x2 hx.ok hs46) (by decide) (by decide) (by decide)
                            generalize F_Ck_lookCall cs n (F_Ck_look cs n d) M a0 w5 x2 = w47 at hF hS hx
                            subst hF
                            exact hx
                          · rw [if_neg hc44] at hF hS
                            by_cases hc48 : (cI M (w5.getD 0) 0) = 11
                            · rw [if_pos hc48] at hF hS
                              obtain ⟨ho49, hS⟩ := hS
                              obtain ⟨hs50, hS⟩ := hS
                              rw [mbind_eq] at hF hS
                              replace hx := Ext.then hM hx (x_Ck_lookPerform cs lim n (F_Ck_look cs n d) (S_Ck_look cs lim n d) ih _ a0 w5 x2 hx.ok hs50) (by decide) (by decide) (by decide)
                              generalize F_Ck_lookPerform cs n (F_Ck_look cs n d) M a0 w5 x2 = w51 at hF hS hx
                              subst hF
                              exact hx
                            · rw [if_neg hc48] at hF hS
                              obtain ⟨hs52, hS⟩ := hS
                              rw [mbind_eq] at hF hS
                              generalize hq_w53 : F_Ck_seenAs cs M 2 0 = w53 at hF hS
                              subst hF
                              exact hx
    · rw [if_neg hc1] at hF hS
      subst hF
      exact hx
theorem x_Co_init (cs : Nat → ClassId) (lim : Nat × Nat) (M : gMem) (a0 : Nat) (x1 : Option Nat) (hM : MOk M) (hS : S_Co_init cs lim M a0 x1) : Ext [(2, 0), (7, 0), (7, 1)] [] true M (F_Co_init cs M a0 x1) := by
  generalize hF : F_Co_init cs M a0 x1 = Fv
  unfold F_Co_init at hF
  unfold S_Co_init at hS
  have hx : Ext [(2, 0), (7, 0), (7, 1)] [] true M M := Ext.rf hM
  obtain ⟨hl1, hS⟩ := hS
  replace hx : Ext [(2, 0), (7, 0), (7, 1)] [] true M (gnw M (1, .inr (2, [.null])) 1) := hx.newO (by decide)
  obtain ⟨hs2, hS⟩ := hS
  rw [mbind_eq] at hF hS
  replace hx := Ext.then hM hx (x_Ce_init cs lim _ M.2.1  hx.ok hs2) (by decide) (by decide) (by decide)
  generalize F_Ce_init cs (gnw M (1, .inr (2, [.null])) 1) M.2.1  = w3 at hF hS hx
  obtain ⟨ho4, hS⟩ := hS
  replace hx : Ext [(2, 0), (7, 0), (7, 1)] [] true M (cP 7 w3 a0 1 (va_rf (some M.2.1))) := hx.putQ 1 ho4 (by decide) (by decide) (by decide)
  obtain ⟨ho5, hS⟩ := hS
  replace hx : Ext [(2, 0), (7, 0), (7, 1)] [] true M (cP 7 (cP 7 w3 a0 1 (va_rf (some M.2.1))) a0 0 (va_rf x1)) := hx.putQ 0 ho5 (by decide) (by decide) (by decide)
  subst hF
  exact hx
theorem x_Co_add (cs : Nat → ClassId) (lim : Nat × Nat) (M : gMem) (a0 : Nat) (x1 : Int32) (x2 : Int32) (hM : MOk M) (hS : S_Co_add cs lim M a0 x1 x2) : Ext [(2, 0), (7, 2)] [(2, 0)] true M ((F_Co_add cs M a0 x1 x2).2) := by
  generalize hF : F_Co_add cs M a0 x1 x2 = Fv
  unfold F_Co_add at hF
  unfold S_Co_add at hS
  have hx : Ext [(2, 0), (7, 2)] [(2, 0)] true M M := Ext.rf hM
  obtain ⟨ho1, hS⟩ := hS
  obtain ⟨ho2, hS⟩ := hS
  obtain ⟨ho3, hS⟩ := hS
  obtain ⟨hs4, hS⟩ := hS
  rw [mbind_eq] at hF hS
  replace hx := Ext.then hM hx (x_Ce_put cs lim _ ((cQ M a0 1).getD 0) ((cI M a0 2) * 5) x1 hx.ok hs4) (by decide) (by decide) (by decide)
  generalize F_Ce_put cs M ((cQ M a0 1).getD 0) ((cI M a0 2) * 5) x1 = w5 at hF hS hx
  obtain ⟨ho6, hS⟩ := hS
  obtain ⟨ho7, hS⟩ := hS
  obtain ⟨hs8, hS⟩ := hS
  rw [mbind_eq] at hF hS
  replace hx := Ext.then hM hx (x_Ce_put cs lim _ ((cQ w5 a0 1).getD 0) (((cI M a0 2) * 5) + 1) x2 hx.ok hs8) (by decide) (by decide) (by decide)
  generalize F_Ce_put cs w5 ((cQ w5 a0 1).getD 0) (((cI M a0 2) * 5) + 1) x2 = w9 at hF hS hx
  obtain ⟨ho10, hS⟩ := hS
  obtain ⟨ho11, hS⟩ := hS
  replace hx : Ext [(2, 0), (7, 2)] [(2, 0)] true M (cP 7 w9 a0 2 (.int ((cI w9 a0 2) + 1))) := hx.putI 2 ho11 (by decide) (by decide)
  subst hF
  exact hx
theorem x_Co_writeScope (cs : Nat → ClassId) (lim : Nat × Nat) (n : Nat) (Lf : gMem → Nat → Int32 → Int32 → gMem) (Ls : gMem → Nat → Int32 → Int32 → Prop) (hL : ∀ (M : gMem) (a0 : Nat) (x1 x2 : Int32), MOk M → Ls M a0 x1 x2 → Ext [(2, 0), (7, 2)] [(2, 0)] true M (Lf M a0 x1 x2)) (M : gMem) (a0 : Nat) (x1 : Int32) (x2 : Int32) (x3 : Int32) (hM : MOk M) (hS : S_Co_writeScope cs lim n Lf Ls M a0 x1 x2 x3) : Ext [(2, 0), (7, 2)] [(2, 0)] true M (F_Co_writeScope cs n Lf M a0 x1 x2 x3) := by
  generalize hF : F_Co_writeScope cs n Lf M a0 x1 x2 x3 = Fv
  unfold F_Co_writeScope at hF
  unfold S_Co_writeScope at hS
  have hx : Ext [(2, 0), (7, 2)] [(2, 0)] true M M := Ext.rf hM
  obtain ⟨ho1, hS⟩ := hS
  obtain ⟨hs2, hS⟩ := hS
  rw [mbind_eq] at hF hS
  replace hx := Ext.then hM hx (x_Co_add cs lim _ a0 3 x1 hx.ok hs2) (by decide) (by decide) (by decide)
  generalize F_Co_add cs M a0 3 x1 = w3 at hF hS hx
  obtain ⟨ho4, hS⟩ := hS
  obtain ⟨hs5, hS⟩ := hS
  rw [mbind_eq] at hF hS
  replace hx := Ext.then hM hx (hL _ a0 x2 (x3 + 1) hx.ok hs5) (by decide) (by decide) (by decide)
  generalize Lf w3.2 a0 x2 (x3 + 1) = w6 at hF hS hx
  obtain ⟨ho7, hS⟩ := hS
  obtain ⟨hs8, hS⟩ := hS
  rw [mbind_eq] at hF hS
  replace hx := Ext.then hM hx (x_Co_add cs lim _ a0 4 x1 hx.ok hs8) (by decide) (by decide) (by decide)
  generalize F_Co_add cs w6 a0 4 x1 = w9 at hF hS hx
  subst hF
  exact hx
theorem x_Co_fill (cs : Nat → ClassId) (lim : Nat × Nat) (M : gMem) (a0 : Nat) (x1 : Int32) (x2 : Int32) (x3 : Int32) (hM : MOk M) (hS : S_Co_fill cs lim M a0 x1 x2 x3) : Ext [(2, 0)] [(2, 0)] true M (F_Co_fill cs M a0 x1 x2 x3) := by
  generalize hF : F_Co_fill cs M a0 x1 x2 x3 = Fv
  unfold F_Co_fill at hF
  unfold S_Co_fill at hS
  have hx : Ext [(2, 0)] [(2, 0)] true M M := Ext.rf hM
  obtain ⟨ho1, hS⟩ := hS
  obtain ⟨ho2, hS⟩ := hS
  obtain ⟨hs3, hS⟩ := hS
  rw [mbind_eq] at hF hS
  replace hx := Ext.then hM hx (x_Ce_put cs lim _ ((cQ M a0 1).getD 0) ((x1 * 5) + x2) x3 hx.ok hs3) (by decide) (by decide) (by decide)
  generalize F_Ce_put cs M ((cQ M a0 1).getD 0) ((x1 * 5) + x2) x3 = w4 at hF hS hx
  subst hF
  exact hx
theorem x_Co_writeBody (cs : Nat → ClassId) (lim : Nat × Nat) (n : Nat) (Lf : gMem → Nat → Int32 → Int32 → gMem) (Ls : gMem → Nat → Int32 → Int32 → Prop) (hL : ∀ (M : gMem) (a0 : Nat) (x1 x2 : Int32), MOk M → Ls M a0 x1 x2 → Ext [(2, 0), (7, 2)] [(2, 0)] true M (Lf M a0 x1 x2)) (M : gMem) (a0 : Nat) (x1 : Int32) (x2 : Int32) (hM : MOk M) (hS : S_Co_writeBody cs lim n Lf Ls M a0 x1 x2) : Ext [(2, 0), (7, 2)] [(2, 0)] true M (F_Co_writeBody cs n Lf M a0 x1 x2) := by
  generalize hF : F_Co_writeBody cs n Lf M a0 x1 x2 = Fv
  unfold F_Co_writeBody at hF
  unfold S_Co_writeBody at hS
  have hx : Ext [(2, 0), (7, 2)] [(2, 0)] true M M := Ext.rf hM
  obtain ⟨ho1, hS⟩ := hS
  obtain ⟨hs2, hS⟩ := hS
  rw [mbind_eq] at hF hS
  replace hx := Ext.then hM hx (hL _ a0 x1 (x2 + 1) hx.ok hs2) (by decide) (by decide) (by decide)
  generalize Lf M a0 x1 (x2 + 1) = w3 at hF hS hx
  obtain ⟨ho4, hS⟩ := hS
  obtain ⟨hs5, hS⟩ := hS
  rw [mbind_eq] at hF hS
  replace hx := Ext.then hM hx (x_Co_add cs lim _ a0 0 0 hx.ok hs5) (by decide) (by decide) (by decide)
  generalize F_Co_add cs w3 a0 0 0 = w6 at hF hS hx
  subst hF
  exact hx
theorem x_Co_writeFunction (cs : Nat → ClassId) (lim : Nat × Nat) (n : Nat) (Lf : gMem → Nat → Int32 → Int32 → gMem) (Ls : gMem → Nat → Int32 → Int32 → Prop) (hL : ∀ (M : gMem) (a0 : Nat) (x1 x2 : Int32), MOk M → Ls M a0 x1 x2 → Ext [(2, 0), (7, 2)] [(2, 0)] true M (Lf M a0 x1 x2)) (M : gMem) (a0 : Nat) (x1 : Option Nat) (x2 : Int32) (hM : MOk M) (hS : S_Co_writeFunction cs lim n Lf Ls M a0 x1 x2) : Ext [(2, 0), (7, 2)] [(2, 0)] true M (F_Co_writeFunction cs n Lf M a0 x1 x2) := by
  generalize hF : F_Co_writeFunction cs n Lf M a0 x1 x2 = Fv
  unfold F_Co_writeFunction at hF
  unfold S_Co_writeFunction at hS
  have hx : Ext [(2, 0), (7, 2)] [(2, 0)] true M M := Ext.rf hM
  obtain ⟨ho1, hS⟩ := hS
  obtain ⟨ho2, hS⟩ := hS
  obtain ⟨hs3, hS⟩ := hS
  rw [mbind_eq] at hF hS
  replace hx := Ext.then hM hx (x_Co_add cs lim _ a0 8 (cI M (x1.getD 0) 2) hx.ok hs3) (by decide) (by decide) (by decide)
  generalize F_Co_add cs M a0 8 (cI M (x1.getD 0) 2) = w4 at hF hS hx
  obtain ⟨ho5, hS⟩ := hS
  obtain ⟨ho6, hS⟩ := hS
  obtain ⟨hs7, hS⟩ := hS
  rw [mbind_eq] at hF hS
  replace hx := Ext.then hM hx (x_Co_fill cs lim _ a0 w4.1 2 (cI w4.2 (x1.getD 0) 3) hx.ok hs7) (by decide) (by decide) (by decide)
  generalize F_Co_fill cs w4.2 a0 w4.1 2 (cI w4.2 (x1.getD 0) 3) = w8 at hF hS hx
  obtain ⟨ho9, hS⟩ := hS
  obtain ⟨ho10, hS⟩ := hS
  obtain ⟨hs11, hS⟩ := hS
  rw [mbind_eq] at hF hS
  replace hx := Ext.then hM hx (x_Co_writeBody cs lim n Lf Ls hL _ a0 (cI w8 (x1.getD 0) 4) x2 hx.ok hs11) (by decide) (by decide) (by decide)
  generalize F_Co_writeBody cs n Lf w8 a0 (cI w8 (x1.getD 0) 4) x2 = w12 at hF hS hx
  obtain ⟨ho13, hS⟩ := hS
  obtain ⟨ho14, hS⟩ := hS
  obtain ⟨hs15, hS⟩ := hS
  rw [mbind_eq] at hF hS
  replace hx := Ext.then hM hx (x_Co_fill cs lim _ a0 w4.1 3 (cI w12 a0 2) hx.ok hs15) (by decide) (by decide) (by decide)
  generalize F_Co_fill cs w12 a0 w4.1 3 (cI w12 a0 2) = w16 at hF hS hx
  subst hF
  exact hx
theorem x_Co_writeChoice (cs : Nat → ClassId) (lim : Nat × Nat) (n : Nat) (Lf : gMem → Nat → Int32 → Int32 → gMem) (Ls : gMem → Nat → Int32 → Int32 → Prop) (hL : ∀ (M : gMem) (a0 : Nat) (x1 x2 : Int32), MOk M → Ls M a0 x1 x2 → Ext [(2, 0), (7, 2)] [(2, 0)] true M (Lf M a0 x1 x2)) (M : gMem) (a0 : Nat) (x1 : Option Nat) (x2 : Int32) (hM : MOk M) (hS : S_Co_writeChoice cs lim n Lf Ls M a0 x1 x2) : Ext [(2, 0), (7, 2)] [(2, 0)] true M (F_Co_writeChoice cs n Lf M a0 x1 x2) := by
  generalize hF : F_Co_writeChoice cs n Lf M a0 x1 x2 = Fv
  unfold F_Co_writeChoice at hF
  unfold S_Co_writeChoice at hS
  have hx : Ext [(2, 0), (7, 2)] [(2, 0)] true M M := Ext.rf hM
  obtain ⟨ho1, hS⟩ := hS
  obtain ⟨ho2, hS⟩ := hS
  obtain ⟨hs3, hS⟩ := hS
  rw [mbind_eq] at hF hS
  replace hx := Ext.then hM hx (hL _ a0 (cI M (x1.getD 0) 4) (x2 + 1) hx.ok hs3) (by decide) (by decide) (by decide)
  generalize Lf M a0 (cI M (x1.getD 0) 4) (x2 + 1) = w4 at hF hS hx
  obtain ⟨ho5, hS⟩ := hS
  obtain ⟨hs6, hS⟩ := hS
  rw [mbind_eq] at hF hS
  replace hx := Ext.then hM hx (x_Co_add cs lim _ a0 6 0 hx.ok hs6) (by decide) (by decide) (by decide)
  generalize F_Co_add cs w4 a0 6 0 = w7 at hF hS hx
  obtain ⟨ho8, hS⟩ := hS
  obtain ⟨ho9, hS⟩ := hS
  obtain ⟨hs10, hS⟩ := hS
  rw [mbind_eq] at hF hS
  replace hx := Ext.then hM hx (hL _ a0 (cI w7.2 (x1.getD 0) 5) (x2 + 1) hx.ok hs10) (by decide) (by decide) (by decide)
  generalize Lf w7.2 a0 (cI w7.2 (x1.getD 0) 5) (x2 + 1) = w11 at hF hS hx
  obtain ⟨ho12, hS⟩ := hS
  obtain ⟨hs13, hS⟩ := hS
  rw [mbind_eq] at hF hS
  replace hx := Ext.then hM hx (x_Co_add cs lim _ a0 5 0 hx.ok hs13) (by decide) (by decide) (by decide)
  generalize F_Co_add cs w11 a0 5 0 = w14 at hF hS hx
  obtain ⟨ho15, hS⟩ := hS
  obtain ⟨ho16, hS⟩ := hS
  obtain ⟨hs17, hS⟩ := hS
  rw [mbind_eq] at hF hS
  replace hx := Ext.then hM hx (x_Co_fill cs lim _ a0 w7.1 1 (cI w14.2 a0 2) hx.ok hs17) (by decide) (by decide) (by decide)
  generalize F_Co_fill cs w14.2 a0 w7.1 1 (cI w14.2 a0 2) = w18 at hF hS hx
  obtain ⟨ho19, hS⟩ := hS
  obtain ⟨ho20, hS⟩ := hS
  obtain ⟨hs21, hS⟩ := hS
  rw [mbind_eq] at hF hS
  replace hx := Ext.then hM hx (hL _ a0 (cI w18 (x1.getD 0) 6) (x2 + 1) hx.ok hs21) (by decide) (by decide) (by decide)
  generalize Lf w18 a0 (cI w18 (x1.getD 0) 6) (x2 + 1) = w22 at hF hS hx
  obtain ⟨ho23, hS⟩ := hS
  obtain ⟨ho24, hS⟩ := hS
  obtain ⟨hs25, hS⟩ := hS
  rw [mbind_eq] at hF hS
  replace hx := Ext.then hM hx (x_Co_fill cs lim _ a0 w14.1 1 (cI w22 a0 2) hx.ok hs25) (by decide) (by decide) (by decide)
  generalize F_Co_fill cs w22 a0 w14.1 1 (cI w22 a0 2) = w26 at hF hS hx
  subst hF
  exact hx
theorem xw_Co_writeHandle_146 (cs : Nat → ClassId) (lim : Nat × Nat) (Lf : gMem → Nat → Int32 → Int32 → gMem) (Ls : gMem → Nat → Int32 → Int32 → Prop) (hL : ∀ (M : gMem) (a0 : Nat) (x1 x2 : Int32), MOk M → Ls M a0 x1 x2 → Ext [(2, 0), (7, 2)] [(2, 0)] true M (Lf M a0 x1 x2)) : ∀ (n : Nat) (M : gMem) (a0 : Nat) (x1 : Option Nat) (x2 : Int32) (x3 : Int32) (x4 : Int32) (Fv : gMem) (hM : MOk M) (hS : S_Co_writeHandle_146 cs lim Lf Ls n M a0 x1 x2 x3 x4) (hF : F_Co_writeHandle_146 cs Lf n M a0 x1 x2 x3 x4 = Fv), Ext [(2, 0), (7, 2)] [(2, 0)] true M Fv := by
  intro n
  induction n with
  | zero =>
    intro M a0 x1 x2 x3 x4 Fv hM hS hF
    exact hS.elim
  | succ n ih =>
    intro M a0 x1 x2 x3 x4 Fv hM hS hF
    simp only [S_Co_writeHandle_146] at hS
    simp only [F_Co_writeHandle_146] at hF
    have hx : Ext [(2, 0), (7, 2)] [(2, 0)] true M M := Ext.rf hM
    obtain ⟨ho1, hS⟩ := hS
    by_cases hc2 : (cI M (x1.getD 0) 8) ≤ x4
    · rw [if_pos hc2] at hF hS
      obtain ⟨ho3, hS⟩ := hS
      obtain ⟨ho4, hS⟩ := hS
      obtain ⟨hs5, hS⟩ := hS
      rw [mbind_eq] at hF hS
      replace hx := Ext.then hM hx (x_Co_fill cs lim _ a0 x3 1 (cI M a0 2) hx.ok hs5) (by decide) (by decide) (by decide)
      generalize F_Co_fill cs M a0 x3 1 (cI M a0 2) = w6 at hF hS hx
      subst hF
      exact hx
    · rw [if_neg hc2] at hF hS
      obtain ⟨ho7, hS⟩ := hS
      obtain ⟨ho8, hS⟩ := hS
      obtain ⟨ho9, hS⟩ := hS
      obtain ⟨hs10, hS⟩ := hS
      rw [mbind_eq] at hF hS
      replace hx := Ext.then hM hx (x_Co_fill cs lim _ a0 (((x3 + 1) + x4) - (cI M (x1.getD 0) 7)) 2 (cI M a0 2) hx.ok hs10) (by decide) (by decide) (by decide)
      generalize F_Co_fill cs M a0 (((x3 + 1) + x4) - (cI M (x1.getD 0) 7)) 2 (cI M a0 2) = w11 at hF hS hx
      obtain ⟨ho12, hS⟩ := hS
      obtain ⟨ho13, hS⟩ := hS
      obtain ⟨hs14, hS⟩ := hS
      rw [mbind_eq] at hF hS
      generalize hq_w15 : F_Ns_clauseAt cs w11 ((cQ w11 a0 0).getD 0) x4 = w15 at hF hS
      obtain ⟨ho16, hS⟩ := hS
      obtain ⟨ho17, hS⟩ := hS
      obtain ⟨hs18, hS⟩ := hS
      rw [mbind_eq] at hF hS
      replace hx := Ext.then hM hx (x_Co_writeBody cs lim n Lf Ls hL _ a0 (cI w11 (w15.getD 0) 3) x2 hx.ok hs18) (by decide) (by decide) (by decide)
      generalize F_Co_writeBody cs n Lf w11 a0 (cI w11 (w15.getD 0) 3) x2 = w19 at hF hS hx
      exact Ext.trans hM hx (ih w19 a0 x1 x2 x3 (x4 + 1) Fv hx.ok hS hF)
theorem xw_Co_writeHandle_39 (cs : Nat → ClassId) (lim : Nat × Nat) (Lf : gMem → Nat → Int32 → Int32 → gMem) (Ls : gMem → Nat → Int32 → Int32 → Prop) (hL : ∀ (M : gMem) (a0 : Nat) (x1 x2 : Int32), MOk M → Ls M a0 x1 x2 → Ext [(2, 0), (7, 2)] [(2, 0)] true M (Lf M a0 x1 x2)) : ∀ (n : Nat) (M : gMem) (a0 : Nat) (x1 : Option Nat) (x2 : Int32) (x3 : Int32) (x4 : Int32) (Fv : gMem) (hM : MOk M) (hS : S_Co_writeHandle_39 cs lim Lf Ls n M a0 x1 x2 x3 x4) (hF : F_Co_writeHandle_39 cs Lf n M a0 x1 x2 x3 x4 = Fv), Ext [(2, 0), (7, 2)] [(2, 0)] true M Fv := by
  intro n
  induction n with
  | zero =>
    intro M a0 x1 x2 x3 x4 Fv hM hS hF
    exact hS.elim
  | succ n ih =>
    intro M a0 x1 x2 x3 x4 Fv hM hS hF
    simp only [S_Co_writeHandle_39] at hS
    simp only [F_Co_writeHandle_39] at hF
    have hx : Ext [(2, 0), (7, 2)] [(2, 0)] true M M := Ext.rf hM
    obtain ⟨ho1, hS⟩ := hS
    by_cases hc2 : (cI M (x1.getD 0) 8) ≤ x4
    · rw [if_pos hc2] at hF hS
      obtain ⟨ho3, hS⟩ := hS
      obtain ⟨ho4, hS⟩ := hS
      obtain ⟨hs5, hS⟩ := hS
      rw [mbind_eq] at hF hS
      replace hx := Ext.then hM hx (hL _ a0 (cI M (x1.getD 0) 4) (x2 + 1) hx.ok hs5) (by decide) (by decide) (by decide)
      generalize Lf M a0 (cI M (x1.getD 0) 4) (x2 + 1) = w6 at hF hS hx
      obtain ⟨ho7, hS⟩ := hS
      obtain ⟨hs8, hS⟩ := hS
      rw [mbind_eq] at hF hS
      replace hx := Ext.then hM hx (x_Co_add cs lim _ a0 11 0 hx.ok hs8) (by decide) (by decide) (by decide)
      generalize F_Co_add cs w6 a0 11 0 = w9 at hF hS hx
      obtain ⟨ho10, hS⟩ := hS
      obtain ⟨ho11, hS⟩ := hS
      obtain ⟨hs12, hS⟩ := hS
      rw [mbind_eq] at hF hS
      replace hx := Ext.then hM hx (x_Co_fill cs lim _ a0 x3 2 (cI w9.2 a0 2) hx.ok hs12) (by decide) (by decide) (by decide)
      generalize F_Co_fill cs w9.2 a0 x3 2 (cI w9.2 a0 2) = w13 at hF hS hx
      obtain ⟨ho14, hS⟩ := hS
      obtain ⟨ho15, hS⟩ := hS
      obtain ⟨hs16, hS⟩ := hS
      rw [mbind_eq] at hF hS
      replace hx := Ext.then hM hx (x_Co_writeBody cs lim n Lf Ls hL _ a0 (cI w13 (x1.getD 0) 5) x2 hx.ok hs16) (by decide) (by decide) (by decide)
      generalize F_Co_writeBody cs n Lf w13 a0 (cI w13 (x1.getD 0) 5) x2 = w17 at hF hS hx
      obtain ⟨ho18, hS⟩ := hS
      exact Ext.trans hM hx (xw_Co_writeHandle_146 cs lim Lf Ls hL n w17 a0 x1 x2 x3 (cI w17 (x1.getD 0) 7) Fv hx.ok hS hF)
    · rw [if_neg hc2] at hF hS
      obtain ⟨ho19, hS⟩ := hS
      obtain ⟨ho20, hS⟩ := hS
      obtain ⟨hs21, hS⟩ := hS
      rw [mbind_eq] at hF hS
      generalize hq_w22 : F_Ns_clauseAt cs M ((cQ M a0 0).getD 0) x4 = w22 at hF hS
      obtain ⟨ho23, hS⟩ := hS
      obtain ⟨ho24, hS⟩ := hS
      obtain ⟨hs25, hS⟩ := hS
      rw [mbind_eq] at hF hS
      replace hx := Ext.then hM hx (x_Co_add cs lim _ a0 10 (cI M (w22.getD 0) 0) hx.ok hs25) (by decide) (by decide) (by decide)
      generalize F_Co_add cs M a0 10 (cI M (w22.getD 0) 0) = w26 at hF hS hx
      obtain ⟨ho27, hS⟩ := hS
      obtain ⟨ho28, hS⟩ := hS
      obtain ⟨hs29, hS⟩ := hS
      rw [mbind_eq] at hF hS
      replace hx := Ext.then hM hx (x_Co_fill cs lim _ a0 w26.1 3 (cI w26.2 (w22.getD 0) 1) hx.ok hs29) (by decide) (by decide) (by decide)
      generalize F_Co_fill cs w26.2 a0 w26.1 3 (cI w26.2 (w22.getD 0) 1) = w30 at hF hS hx
      obtain ⟨ho31, hS⟩ := hS
      obtain ⟨ho32, hS⟩ := hS
      obtain ⟨hs33, hS⟩ := hS
      rw [mbind_eq] at hF hS
      replace hx := Ext.then hM hx (x_Co_fill cs lim _ a0 w26.1 4 (cI w30 (w22.getD 0) 2) hx.ok hs33) (by decide) (by decide) (by decide)
      generalize F_Co_fill cs w30 a0 w26.1 4 (cI w30 (w22.getD 0) 2) = w34 at hF hS hx
      exact Ext.trans hM hx (ih w34 a0 x1 x2 x3 (x4 + 1) Fv hx.ok hS hF)
theorem x_Co_writeHandle (cs : Nat → ClassId) (lim : Nat × Nat) (n : Nat) (Lf : gMem → Nat → Int32 → Int32 → gMem) (Ls : gMem → Nat → Int32 → Int32 → Prop) (hL : ∀ (M : gMem) (a0 : Nat) (x1 x2 : Int32), MOk M → Ls M a0 x1 x2 → Ext [(2, 0), (7, 2)] [(2, 0)] true M (Lf M a0 x1 x2)) (M : gMem) (a0 : Nat) (x1 : Option Nat) (x2 : Int32) (hM : MOk M) (hS : S_Co_writeHandle cs lim n Lf Ls M a0 x1 x2) : Ext [(2, 0), (7, 2)] [(2, 0)] true M (F_Co_writeHandle cs n Lf M a0 x1 x2) := by
  generalize hF : F_Co_writeHandle cs n Lf M a0 x1 x2 = Fv
  unfold F_Co_writeHandle at hF
  unfold S_Co_writeHandle at hS
  have hx : Ext [(2, 0), (7, 2)] [(2, 0)] true M M := Ext.rf hM
  obtain ⟨ho1, hS⟩ := hS
  obtain ⟨hs2, hS⟩ := hS
  rw [mbind_eq] at hF hS
  replace hx := Ext.then hM hx (x_Co_add cs lim _ a0 9 0 hx.ok hs2) (by decide) (by decide) (by decide)
  generalize F_Co_add cs M a0 9 0 = w3 at hF hS hx
  obtain ⟨ho4, hS⟩ := hS
  obtain ⟨ho5, hS⟩ := hS
  obtain ⟨hs6, hS⟩ := hS
  rw [mbind_eq] at hF hS
  replace hx := Ext.then hM hx (x_Co_fill cs lim _ a0 w3.1 3 (cI w3.2 (x1.getD 0) 2) hx.ok hs6) (by decide) (by decide) (by decide)
  generalize F_Co_fill cs w3.2 a0 w3.1 3 (cI w3.2 (x1.getD 0) 2) = w7 at hF hS hx
  obtain ⟨ho8, hS⟩ := hS
  obtain ⟨ho9, hS⟩ := hS
  obtain ⟨ho10, hS⟩ := hS
  obtain ⟨hs11, hS⟩ := hS
  rw [mbind_eq] at hF hS
  replace hx := Ext.then hM hx (x_Co_fill cs lim _ a0 w3.1 4 ((cI w7 (x1.getD 0) 8) - (cI w7 (x1.getD 0) 7)) hx.ok hs11) (by decide) (by decide) (by decide)
  generalize F_Co_fill cs w7 a0 w3.1 4 ((cI w7 (x1.getD 0) 8) - (cI w7 (x1.getD 0) 7)) = w12 at hF hS hx
  obtain ⟨ho13, hS⟩ := hS
  exact Ext.trans hM hx (xw_Co_writeHandle_39 cs lim Lf Ls hL n w12 a0 x1 x2 w3.1 (cI w12 (x1.getD 0) 7) Fv hx.ok hS hF)
theorem x_Co_write (cs : Nat → ClassId) (lim : Nat × Nat) (n : Nat) : ∀ (d : Nat) (M : gMem) (a0 : Nat) (x1 x2 : Int32) (hM : MOk M) (hS : S_Co_write cs lim n d M a0 x1 x2), Ext [(2, 0), (7, 2)] [(2, 0)] true M (F_Co_write cs n d M a0 x1 x2) := by
  intro d
  induction d with
  | zero =>
    intro M a0 x1 x2 hM hS
    exact hS.elim
  | succ d ih =>
    intro M a0 x1 x2 hM hS
    generalize hF : F_Co_write cs n (d + 1) M a0 x1 x2 = Fv
    simp only [F_Co_write] at hF
    simp only [S_Co_write] at hS
    have hx : Ext [(2, 0), (7, 2)] [(2, 0)] true M M := Ext.rf hM
    by_cases hc1 : x2 ≤ 40
    · rw [if_pos hc1] at hF hS
      obtain ⟨ho2, hS⟩ := hS
      obtain ⟨ho3, hS⟩ := hS
      obtain ⟨hs4, hS⟩ := hS
      rw [mbind_eq] at hF hS
      generalize hq_w5 : F_Ns_at cs M ((cQ M a0 0).getD 0) x1 = w5 at hF hS
      obtain ⟨ho6, hS⟩ := hS
      by_cases hc7 : (cI M (w5.getD 0) 0) = 3
      · rw [if_pos hc7] at hF hS
        obtain ⟨ho8, hS⟩ := hS
        obtain ⟨ho9, hS⟩ := hS
        obtain ⟨hs10, hS⟩ := hS
        rw [mbind_eq] at hF hS
        replace hx := Ext.then hM hx (x_Co_add cs lim _ a0 2 (cI M (w5.getD 0) 1) hx.ok hs10) (by decide) (by decide) (by decide)
        generalize F_Co_add cs M a0 2 (cI M (w5.getD 0) 1) = w11 at hF hS hx
        subst hF
        exact hx
      · rw [if_neg hc7] at hF hS
        by_cases hc12 : (cI M (w5.getD 0) 0) = 4
        · rw [if_pos hc12] at hF hS
          obtain ⟨ho13, hS⟩ := hS
          obtain ⟨ho14, hS⟩ := hS
          obtain ⟨hs15, hS⟩ := hS
          rw [mbind_eq] at hF hS
          replace hx := Ext.then hM hx (ih _ a0 (cI M (w5.getD 0) 4) (x2 + 1) hx.ok hs15) (by decide) (by decide) (by decide)
          generalize F_Co_write cs n d M a0 (cI M (w5.getD 0) 4) (x2 + 1) = w16 at hF hS hx
          obtain ⟨ho17, hS⟩ := hS
          obtain ⟨ho18, hS⟩ := hS
          obtain ⟨ho19, hS⟩ := hS
          obtain ⟨hs20, hS⟩ := hS
          rw [mbind_eq] at hF hS
          replace hx := Ext.then hM hx (x_Co_writeScope cs lim n (F_Co_write cs n d) (S_Co_write cs lim n d) ih _ a0 (cI w16 (w5.getD 0) 2) (cI w16 (w5.getD 0) 5) x2 hx.ok hs20) (by decide) (by decide) (by decide)
          generalize F_Co_writeScope cs n (F_Co_write cs n d) w16 a0 (cI w16 (w5.getD 0) 2) (cI w16 (w5.getD 0) 5) x2 = w21 at hF hS hx
          subst hF
          exact hx
        · rw [if_neg hc12] at hF hS
          by_cases hc22 : (cI M (w5.getD 0) 0) = 5
          · rw [if_pos hc22] at hF hS
            obtain ⟨ho23, hS⟩ := hS
            obtain ⟨hs24, hS⟩ := hS
            rw [mbind_eq] at hF hS
            replace hx := Ext.then hM hx (x_Co_writeFunction cs lim n (F_Co_write cs n d) (S_Co_write cs lim n d) ih _ a0 w5 x2 hx.ok hs24) (by decide) (by decide) (by decide)
            generalize F_Co_writeFunction cs n (F_Co_write cs n d) M a0 w5 x2 = w25 at hF hS hx
            obtain ⟨ho26, hS⟩ := hS
            obtain ⟨ho27, hS⟩ := hS
            obtain ⟨ho28, hS⟩ := hS
            obtain ⟨hs29, hS⟩ := hS
            rw [mbind_eq] at hF hS
            replace hx := Ext.then hM hx (x_Co_writeScope cs lim n (F_Co_write cs n d) (S_Co_write cs lim n d) ih _ a0 (cI w25 (w5.getD 0) 3) (cI w25 (w5.getD 0) 5) x2 hx.ok hs29) (by decide) (by decide) (by decide)
            generalize F_Co_writeScope cs n (F_Co_write cs n d) w25 a0 (cI w25 (w5.getD 0) 3) (cI w25 (w5.getD 0) 5) x2 = w30 at hF hS hx
            subst hF
            exact hx
          · rw [if_neg hc22] at hF hS
            by_cases hc31 : (cI M (w5.getD 0) 0) = 6
            · rw [if_pos hc31] at hF hS
              obtain ⟨ho32, hS⟩ := hS
              obtain ⟨hs33, hS⟩ := hS
              rw [mbind_eq] at hF hS
              replace hx := Ext.then hM hx (x_Co_writeChoice cs lim n (F_Co_write cs n d) (S_Co_write cs lim n d) ih _ a0 w5 x2 hx.ok hs33) (by decide) (by decide) (by decide)
              generalize F_Co_writeChoice cs n (F_Co_write cs n d) M a0 w5 x2 = w34 at hF hS hx
              subst hF
              exact hx
            · rw [if_neg hc31] at hF hS
              by_cases hc35 : (cI M (w5.getD 0) 0) = 7
              · rw [if_pos hc35] at hF hS
                obtain ⟨ho36, hS⟩ := hS
                obtain ⟨hs37, hS⟩ := hS
                rw [mbind_eq] at hF hS
                replace hx := Ext.then hM hx (x_Co_writeFunction cs lim n (F_Co_write cs n d) (S_Co_write cs lim n d) ih _ a0 w5 x2 hx.ok hs37) (by decide) (by decide) (by decide)
                generalize F_Co_writeFunction cs n (F_Co_write cs n d) M a0 w5 x2 = w38 at hF hS hx
                subst hF
                exact hx
              · rw [if_neg hc35] at hF hS
                by_cases hc39 : (cI M (w5.getD 0) 0) = 8
                · rw [if_pos hc39] at hF hS
                  obtain ⟨ho40, hS⟩ := hS
                  obtain ⟨hs41, hS⟩ := hS
                  rw [mbind_eq] at hF hS
                  replace hx := Ext.then hM hx (x_Co_writeHandle cs lim n (F_Co_write cs n d) (S_Co_write cs lim n d) ih _ a0 w5 x2 hx.ok hs41) (by decide) (by decide) (by decide)
                  generalize F_Co_writeHandle cs n (F_Co_write cs n d) M a0 w5 x2 = w42 at hF hS hx
                  subst hF
                  exact hx
                · rw [if_neg hc39] at hF hS
                  by_cases hc43 : (cI M (w5.getD 0) 0) = 9
                  · rw [if_pos hc43] at hF hS
                    obtain ⟨ho44, hS⟩ := hS
                    obtain ⟨ho45, hS⟩ := hS
                    obtain ⟨hs46, hS⟩ := hS
                    rw [mbind_eq] at hF hS
                    replace hx := Ext.then hM hx (ih _ a0 (cI M (w5.getD 0) 4) (x2 + 1) hx.ok hs46) (by decide) (by decide) (by decide)
                    generalize F_Co_write cs n d M a0 (cI M (w5.getD 0) 4) (x2 + 1) = w47 at hF hS hx
                    obtain ⟨ho48, hS⟩ := hS
                    obtain ⟨ho49, hS⟩ := hS
                    obtain ⟨hs50, hS⟩ := hS
                    rw [mbind_eq] at hF hS
                    replace hx := Ext.then hM hx (ih _ a0 (cI w47 (w5.getD 0) 5) (x2 + 1) hx.ok hs50) (by decide) (by decide) (by decide)
                    generalize F_Co_write cs n d w47 a0 (cI w47 (w5.getD 0) 5) (x2 + 1) = w51 at hF hS hx
                    obtain ⟨ho52, hS⟩ := hS
                    obtain ⟨ho53, hS⟩ := hS
                    obtain ⟨hs54, hS⟩ := hS
                    rw [mbind_eq] at hF hS
                    replace hx := Ext.then hM hx (x_Co_add cs lim _ a0 7 (cI w51 (w5.getD 0) 1) hx.ok hs54) (by decide) (by decide) (by decide)
                    generalize F_Co_add cs w51 a0 7 (cI w51 (w5.getD 0) 1) = w55 at hF hS hx
                    subst hF
                    exact hx
                  · rw [if_neg hc43] at hF hS
                    by_cases hc56 : (cI M (w5.getD 0) 0) = 10
                    · rw [if_pos hc56] at hF hS
                      obtain ⟨ho57, hS⟩ := hS
                      obtain ⟨ho58, hS⟩ := hS
                      obtain ⟨hs59, hS⟩ := hS
                      rw [mbind_eq] at hF hS
                      replace hx := Ext.then hM hx (ih _ a0 (cI M (w5.getD 0) 4) (x2 + 1) hx.ok hs59) (by decide) (by decide) (by decide)
                      generalize F_Co_write cs n d M a0 (cI M (w5.getD 0) 4) (x2 + 1) = w60 at hF hS hx
                      obtain ⟨ho61, hS⟩ := hS
                      obtain ⟨ho62, hS⟩ := hS
                      obtain ⟨hs63, hS⟩ := hS
                      rw [mbind_eq] at hF hS
                      replace hx := Ext.then hM hx (ih _ a0 (cI w60 (w5.getD 0) 5) (x2 + 1) hx.ok hs63) (by decide) (by decide) (by decide)
                      generalize F_Co_write cs n d w60 a0 (cI w60 (w5.getD 0) 5) (x2 + 1) = w64 at hF hS hx
                      obtain ⟨ho65, hS⟩ := hS
                      obtain ⟨hs66, hS⟩ := hS
                      rw [mbind_eq] at hF hS
                      replace hx := Ext.then hM hx (x_Co_add cs lim _ a0 12 0 hx.ok hs66) (by decide) (by decide) (by decide)
                      generalize F_Co_add cs w64 a0 12 0 = w67 at hF hS hx
                      subst hF
                      exact hx
                    · rw [if_neg hc56] at hF hS
                      by_cases hc68 : (cI M (w5.getD 0) 0) = 11
                      · rw [if_pos hc68] at hF hS
                        obtain ⟨ho69, hS⟩ := hS
                        obtain ⟨ho70, hS⟩ := hS
                        obtain ⟨hs71, hS⟩ := hS
                        rw [mbind_eq] at hF hS
                        replace hx := Ext.then hM hx (ih _ a0 (cI M (w5.getD 0) 4) (x2 + 1) hx.ok hs71) (by decide) (by decide) (by decide)
                        generalize F_Co_write cs n d M a0 (cI M (w5.getD 0) 4) (x2 + 1) = w72 at hF hS hx
                        obtain ⟨ho73, hS⟩ := hS
                        obtain ⟨ho74, hS⟩ := hS
                        obtain ⟨hs75, hS⟩ := hS
                        rw [mbind_eq] at hF hS
                        replace hx := Ext.then hM hx (x_Co_add cs lim _ a0 13 (cI w72 (w5.getD 0) 1) hx.ok hs75) (by decide) (by decide) (by decide)
                        generalize F_Co_add cs w72 a0 13 (cI w72 (w5.getD 0) 1) = w76 at hF hS hx
                        subst hF
                        exact hx
                      · rw [if_neg hc68] at hF hS
                        obtain ⟨ho77, hS⟩ := hS
                        obtain ⟨ho78, hS⟩ := hS
                        obtain ⟨hs79, hS⟩ := hS
                        rw [mbind_eq] at hF hS
                        replace hx := Ext.then hM hx (x_Co_add cs lim _ a0 1 (cI M (w5.getD 0) 1) hx.ok hs79) (by decide) (by decide) (by decide)
                        generalize F_Co_add cs M a0 1 (cI M (w5.getD 0) 1) = w80 at hF hS hx
                        subst hF
                        exact hx
    · rw [if_neg hc1] at hF hS
      subst hF
      exact hx
theorem x_Co_compile (cs : Nat → ClassId) (lim : Nat × Nat) (n : Nat) (M : gMem) (a0 : Nat) (x1 : Int32) (hM : MOk M) (hS : S_Co_compile cs lim n M a0 x1) : Ext [(2, 0), (7, 2)] [(2, 0)] true M (F_Co_compile cs n M a0 x1) := by
  generalize hF : F_Co_compile cs n M a0 x1 = Fv
  unfold F_Co_compile at hF
  unfold S_Co_compile at hS
  have hx : Ext [(2, 0), (7, 2)] [(2, 0)] true M M := Ext.rf hM
  obtain ⟨ho1, hS⟩ := hS
  replace hx : Ext [(2, 0), (7, 2)] [(2, 0)] true M (cP 7 M a0 2 (.int 0)) := hx.putI 2 ho1 (by decide) (by decide)
  obtain ⟨ho2, hS⟩ := hS
  obtain ⟨hs3, hS⟩ := hS
  rw [mbind_eq] at hF hS
  replace hx := Ext.then hM hx (x_Co_write cs lim n 42 _ a0 x1 1 hx.ok hs3) (by decide) (by decide) (by decide)
  generalize F_Co_write cs n 42 (cP 7 M a0 2 (.int 0)) a0 x1 1 = w4 at hF hS hx
  obtain ⟨ho5, hS⟩ := hS
  obtain ⟨hs6, hS⟩ := hS
  rw [mbind_eq] at hF hS
  replace hx := Ext.then hM hx (x_Co_add cs lim _ a0 0 0 hx.ok hs6) (by decide) (by decide) (by decide)
  generalize F_Co_add cs w4 a0 0 0 = w7 at hF hS hx
  subst hF
  exact hx
theorem x_Fr_init (cs : Nat → ClassId) (lim : Nat × Nat) (M : gMem) (a0 : Nat) (hM : MOk M) (hS : S_Fr_init cs lim M a0) : Ext [(10, 0), (10, 1)] [] true M (F_Fr_init cs M a0) := by
  generalize hF : F_Fr_init cs M a0 = Fv
  unfold F_Fr_init at hF
  unfold S_Fr_init at hS
  have hx : Ext [(10, 0), (10, 1)] [] true M M := Ext.rf hM
  obtain ⟨hl1, hS⟩ := hS
  have hb2 := hx.sz.1
  replace hx : Ext [(10, 0), (10, 1)] [] true M (gnw M (1, .inl (cs 0, (50 : Int32).toNatClampNeg, .inl (fun _ => 0))) (50 : Int32).toNatClampNeg) := hx.newA
  obtain ⟨ho3, hS⟩ := hS
  replace hx : Ext [(10, 0), (10, 1)] [] true M (cP 10 (gnw M (1, .inl (cs 0, (50 : Int32).toNatClampNeg, .inl (fun _ => 0))) (50 : Int32).toNatClampNeg) a0 0 (va_rf (some M.2.1))) := hx.putA 0 ho3 (by decide) (by decide) hb2 (Nat.lt_succ_self _)
  obtain ⟨ho4, hS⟩ := hS
  replace hx : Ext [(10, 0), (10, 1)] [] true M (cP 10 (cP 10 (gnw M (1, .inl (cs 0, (50 : Int32).toNatClampNeg, .inl (fun _ => 0))) (50 : Int32).toNatClampNeg) a0 0 (va_rf (some M.2.1))) a0 1 (.int 10)) := hx.putI 1 ho4 (by decide) (by decide)
  subst hF
  exact hx
theorem x_Fr_open (cs : Nat → ClassId) (lim : Nat × Nat) (M : gMem) (a0 : Nat) (x1 : Option Nat) (x2 : Int32) (hM : MOk M) (hS : S_Fr_open cs lim M a0 x1 x2) : Ext [(10, 1), (10, 2), (10, 3)] [(10, 0)] false M (F_Fr_open cs M a0 x1 x2) := by
  generalize hF : F_Fr_open cs M a0 x1 x2 = Fv
  unfold F_Fr_open at hF
  unfold S_Fr_open at hS
  have hx : Ext [(10, 1), (10, 2), (10, 3)] [(10, 0)] false M M := Ext.rf hM
  by_cases hc1 : x1 = none
  · rw [if_pos hc1] at hF hS
    obtain ⟨ho2, hS⟩ := hS
    replace hx : Ext [(10, 1), (10, 2), (10, 3)] [(10, 0)] false M (cP 10 M a0 2 (.int x2)) := hx.putI 2 ho2 (by decide) (by decide)
    obtain ⟨ho3, hS⟩ := hS
    replace hx : Ext [(10, 1), (10, 2), (10, 3)] [(10, 0)] false M (cP 10 (cP 10 M a0 2 (.int x2)) a0 1 (.int 10)) := hx.putI 1 ho3 (by decide) (by decide)
    obtain ⟨ho4, hS⟩ := hS
    replace hx : Ext [(10, 1), (10, 2), (10, 3)] [(10, 0)] false M (cP 10 (cP 10 (cP 10 M a0 2 (.int x2)) a0 1 (.int 10)) a0 3 (va_rf (none : Option Nat))) := hx.putQ 3 ho4 (by decide) (by decide) (by decide)
    subst hF
    exact hx
  · rw [if_neg hc1] at hF hS
    obtain ⟨ho5, hS⟩ := hS
    obtain ⟨ho6, hS⟩ := hS
    obtain ⟨ha7, hS⟩ := hS
    obtain ⟨ha8, hS⟩ := hS
    obtain ⟨hy9, hS⟩ := hS
    replace hx : Ext [(10, 1), (10, 2), (10, 3)] [(10, 0)] false M (aCp (cs 0) M ((cQ M (x1.getD 0) 0).getD 0) ((cQ M a0 0).getD 0) (0 : Int32).toNatClampNeg (0 : Int32).toNatClampNeg (10 : Int32).toNatClampNeg) := Ext.arrI hM hx ha8.2 (Or.inr (V_of (by decide) (by decide) ho6 ha8.1))
    obtain ⟨ho10, hS⟩ := hS
    replace hx : Ext [(10, 1), (10, 2), (10, 3)] [(10, 0)] false M (cP 10 (aCp (cs 0) M ((cQ M (x1.getD 0) 0).getD 0) ((cQ M a0 0).getD 0) (0 : Int32).toNatClampNeg (0 : Int32).toNatClampNeg (10 : Int32).toNatClampNeg) a0 2 (.int x2)) := hx.putI 2 ho10 (by decide) (by decide)
    obtain ⟨ho11, hS⟩ := hS
    replace hx : Ext [(10, 1), (10, 2), (10, 3)] [(10, 0)] false M (cP 10 (cP 10 (aCp (cs 0) M ((cQ M (x1.getD 0) 0).getD 0) ((cQ M a0 0).getD 0) (0 : Int32).toNatClampNeg (0 : Int32).toNatClampNeg (10 : Int32).toNatClampNeg) a0 2 (.int x2)) a0 1 (.int 10)) := hx.putI 1 ho11 (by decide) (by decide)
    obtain ⟨ho12, hS⟩ := hS
    replace hx : Ext [(10, 1), (10, 2), (10, 3)] [(10, 0)] false M (cP 10 (cP 10 (cP 10 (aCp (cs 0) M ((cQ M (x1.getD 0) 0).getD 0) ((cQ M a0 0).getD 0) (0 : Int32).toNatClampNeg (0 : Int32).toNatClampNeg (10 : Int32).toNatClampNeg) a0 2 (.int x2)) a0 1 (.int 10)) a0 3 (va_rf (none : Option Nat))) := hx.putQ 3 ho12 (by decide) (by decide) (by decide)
    subst hF
    exact hx
theorem x_Fr_keepNames (cs : Nat → ClassId) (lim : Nat × Nat) (M : gMem) (a0 : Nat) (x1 : Option Nat) (hM : MOk M) (hS : S_Fr_keepNames cs lim M a0 x1) : Ext [] [(11, 0)] false M (F_Fr_keepNames cs M a0 x1) := by
  generalize hF : F_Fr_keepNames cs M a0 x1 = Fv
  unfold F_Fr_keepNames at hF
  unfold S_Fr_keepNames at hS
  have hx : Ext [] [(11, 0)] false M M := Ext.rf hM
  obtain ⟨ho1, hS⟩ := hS
  obtain ⟨ho2, hS⟩ := hS
  obtain ⟨ha3, hS⟩ := hS
  obtain ⟨ha4, hS⟩ := hS
  obtain ⟨hy5, hS⟩ := hS
  replace hx : Ext [] [(11, 0)] false M (aCp (cs 0) M ((cQ M a0 0).getD 0) ((cQ M (x1.getD 0) 0).getD 0) (0 : Int32).toNatClampNeg (0 : Int32).toNatClampNeg (10 : Int32).toNatClampNeg) := Ext.arrI hM hx ha4.2 (Or.inr (V_of (by decide) (by decide) (cOq.at ho2).2 ha4.1))
  subst hF
  exact hx
theorem x_Fr_give (cs : Nat → ClassId) (lim : Nat × Nat) (M : gMem) (a0 : Nat) (x1 : Int32) (x2 : Int32) (hM : MOk M) (hS : S_Fr_give cs lim M a0 x1 x2) : Ext [] [(10, 0)] false M (F_Fr_give cs M a0 x1 x2) := by
  generalize hF : F_Fr_give cs M a0 x1 x2 = Fv
  unfold F_Fr_give at hF
  unfold S_Fr_give at hS
  have hx : Ext [] [(10, 0)] false M M := Ext.rf hM
  by_cases hc1 : x1 < 0
  · rw [if_pos hc1] at hF hS
    subst hF
    exact hx
  · rw [if_neg hc1] at hF hS
    by_cases hc2 : 10 ≤ x1
    · rw [if_pos hc2] at hF hS
      subst hF
      exact hx
    · rw [if_neg hc2] at hF hS
      obtain ⟨ho3, hS⟩ := hS
      obtain ⟨ha4, hS⟩ := hS
      obtain ⟨hi5, hS⟩ := hS
      replace hx : Ext [] [(10, 0)] false M (aPi (cs 0) M ((cQ M a0 0).getD 0) x1.toNatClampNeg x2) := Ext.arrI hM hx ha4.2 (Or.inr (V_of (by decide) (by decide) ho3 ha4.1))
      subst hF
      exact hx
theorem x_Fr_push (cs : Nat → ClassId) (lim : Nat × Nat) (M : gMem) (a0 : Nat) (x1 : Int32) (hM : MOk M) (hS : S_Fr_push cs lim M a0 x1) : Ext [(10, 1)] [(10, 0)] false M (F_Fr_push cs M a0 x1) := by
  generalize hF : F_Fr_push cs M a0 x1 = Fv
  unfold F_Fr_push at hF
  unfold S_Fr_push at hS
  have hx : Ext [(10, 1)] [(10, 0)] false M M := Ext.rf hM
  obtain ⟨ho1, hS⟩ := hS
  obtain ⟨ho2, hS⟩ := hS
  obtain ⟨ha3, hS⟩ := hS
  by_cases hc4 : (nI (aL M ((cQ M a0 0).getD 0))) ≤ (cI M a0 1)
  · rw [if_pos hc4] at hF hS
    subst hF
    exact hx
  · rw [if_neg hc4] at hF hS
    obtain ⟨ho5, hS⟩ := hS
    obtain ⟨ho6, hS⟩ := hS
    obtain ⟨ha7, hS⟩ := hS
    obtain ⟨hi8, hS⟩ := hS
    replace hx : Ext [(10, 1)] [(10, 0)] false M (aPi (cs 0) M ((cQ M a0 0).getD 0) (cI M a0 1).toNatClampNeg x1) := Ext.arrI hM hx ha7.2 (Or.inr (V_of (by decide) (by decide) ho5 ha7.1))
    obtain ⟨ho9, hS⟩ := hS
    obtain ⟨ho10, hS⟩ := hS
    replace hx : Ext [(10, 1)] [(10, 0)] false M (cP 10 (aPi (cs 0) M ((cQ M a0 0).getD 0) (cI M a0 1).toNatClampNeg x1) a0 1 (.int ((cI (aPi (cs 0) M ((cQ M a0 0).getD 0) (cI M a0 1).toNatClampNeg x1) a0 1) + 1))) := hx.putI 1 ho10 (by decide) (by decide)
    subst hF
    exact hx
theorem x_Fr_pop (cs : Nat → ClassId) (lim : Nat × Nat) (M : gMem) (a0 : Nat) (hM : MOk M) (hS : S_Fr_pop cs lim M a0) : Ext [(10, 1)] [] false M ((F_Fr_pop cs M a0).2) := by
  generalize hF : F_Fr_pop cs M a0 = Fv
  unfold F_Fr_pop at hF
  unfold S_Fr_pop at hS
  have hx : Ext [(10, 1)] [] false M M := Ext.rf hM
  obtain ⟨ho1, hS⟩ := hS
  by_cases hc2 : 10 < (cI M a0 1)
  · rw [if_pos hc2] at hF hS
    obtain ⟨ho3, hS⟩ := hS
    obtain ⟨ho4, hS⟩ := hS
    replace hx : Ext [(10, 1)] [] false M (cP 10 M a0 1 (.int ((cI M a0 1) - 1))) := hx.putI 1 ho4 (by decide) (by decide)
    obtain ⟨ho5, hS⟩ := hS
    obtain ⟨ho6, hS⟩ := hS
    obtain ⟨ha7, hS⟩ := hS
    obtain ⟨hi8, hS⟩ := hS
    subst hF
    exact hx
  · rw [if_neg hc2] at hF hS
    subst hF
    exact hx
theorem x_Th_init (cs : Nat → ClassId) (lim : Nat × Nat) (M : gMem) (a0 : Nat) (hM : MOk M) (hS : S_Th_init cs lim M a0) : Ext [(11, 0)] [] true M (F_Th_init cs M a0) := by
  generalize hF : F_Th_init cs M a0 = Fv
  unfold F_Th_init at hF
  unfold S_Th_init at hS
  have hx : Ext [(11, 0)] [] true M M := Ext.rf hM
  obtain ⟨hl1, hS⟩ := hS
  have hb2 := hx.sz.1
  replace hx : Ext [(11, 0)] [] true M (gnw M (1, .inl (cs 0, (10 : Int32).toNatClampNeg, .inl (fun _ => 0))) (10 : Int32).toNatClampNeg) := hx.newA
  obtain ⟨ho3, hS⟩ := hS
  replace hx : Ext [(11, 0)] [] true M (cP 11 (gnw M (1, .inl (cs 0, (10 : Int32).toNatClampNeg, .inl (fun _ => 0))) (10 : Int32).toNatClampNeg) a0 0 (va_rf (some M.2.1))) := hx.putA 0 ho3 (by decide) (by decide) hb2 (Nat.lt_succ_self _)
  subst hF
  exact hx
theorem x_Th_make (cs : Nat → ClassId) (lim : Nat × Nat) (M : gMem) (a0 : Nat) (x1 : Int32) (hM : MOk M) (hS : S_Th_make cs lim M a0 x1) : Ext [(11, 1), (11, 2), (11, 4), (11, 5)] [] false M (F_Th_make cs M a0 x1) := by
  generalize hF : F_Th_make cs M a0 x1 = Fv
  unfold F_Th_make at hF
  unfold S_Th_make at hS
  have hx : Ext [(11, 1), (11, 2), (11, 4), (11, 5)] [] false M M := Ext.rf hM
  obtain ⟨ho1, hS⟩ := hS
  replace hx : Ext [(11, 1), (11, 2), (11, 4), (11, 5)] [] false M (cP 11 M a0 1 (.int x1)) := hx.putI 1 ho1 (by decide) (by decide)
  obtain ⟨ho2, hS⟩ := hS
  replace hx : Ext [(11, 1), (11, 2), (11, 4), (11, 5)] [] false M (cP 11 (cP 11 M a0 1 (.int x1)) a0 2 (.int 0)) := hx.putI 2 ho2 (by decide) (by decide)
  obtain ⟨ho3, hS⟩ := hS
  replace hx : Ext [(11, 1), (11, 2), (11, 4), (11, 5)] [] false M (cP 11 (cP 11 (cP 11 M a0 1 (.int x1)) a0 2 (.int 0)) a0 4 (va_rf (none : Option Nat))) := hx.putQ 4 ho3 (by decide) (by decide) (by decide)
  obtain ⟨ho4, hS⟩ := hS
  replace hx : Ext [(11, 1), (11, 2), (11, 4), (11, 5)] [] false M (cP 11 (cP 11 (cP 11 (cP 11 M a0 1 (.int x1)) a0 2 (.int 0)) a0 4 (va_rf (none : Option Nat))) a0 5 (va_rf (none : Option Nat))) := hx.putQ 5 ho4 (by decide) (by decide) (by decide)
  subst hF
  exact hx
theorem x_Th_hold (cs : Nat → ClassId) (lim : Nat × Nat) (M : gMem) (a0 : Nat) (x1 : Option Nat) (x2 : Option Nat) (x3 : Int32) (hM : MOk M) (hS : S_Th_hold cs lim M a0 x1 x2 x3) : Ext [(11, 2), (11, 3), (11, 4), (11, 5), (11, 6)] [] false M (F_Th_hold cs M a0 x1 x2 x3) := by
  generalize hF : F_Th_hold cs M a0 x1 x2 x3 = Fv
  unfold F_Th_hold at hF
  unfold S_Th_hold at hS
  have hx : Ext [(11, 2), (11, 3), (11, 4), (11, 5), (11, 6)] [] false M M := Ext.rf hM
  obtain ⟨ho1, hS⟩ := hS
  replace hx : Ext [(11, 2), (11, 3), (11, 4), (11, 5), (11, 6)] [] false M (cP 11 M a0 2 (.int 1)) := hx.putI 2 ho1 (by decide) (by decide)
  obtain ⟨ho2, hS⟩ := hS
  replace hx : Ext [(11, 2), (11, 3), (11, 4), (11, 5), (11, 6)] [] false M (cP 11 (cP 11 M a0 2 (.int 1)) a0 3 (.int 0)) := hx.putI 3 ho2 (by decide) (by decide)
  obtain ⟨ho3, hS⟩ := hS
  replace hx : Ext [(11, 2), (11, 3), (11, 4), (11, 5), (11, 6)] [] false M (cP 11 (cP 11 (cP 11 M a0 2 (.int 1)) a0 3 (.int 0)) a0 4 (va_rf x1)) := hx.putQ 4 ho3 (by decide) (by decide) (by decide)
  obtain ⟨ho4, hS⟩ := hS
  replace hx : Ext [(11, 2), (11, 3), (11, 4), (11, 5), (11, 6)] [] false M (cP 11 (cP 11 (cP 11 (cP 11 M a0 2 (.int 1)) a0 3 (.int 0)) a0 4 (va_rf x1)) a0 5 (va_rf x2)) := hx.putQ 5 ho4 (by decide) (by decide) (by decide)
  obtain ⟨ho5, hS⟩ := hS
  replace hx : Ext [(11, 2), (11, 3), (11, 4), (11, 5), (11, 6)] [] false M (cP 11 (cP 11 (cP 11 (cP 11 (cP 11 M a0 2 (.int 1)) a0 3 (.int 0)) a0 4 (va_rf x1)) a0 5 (va_rf x2)) a0 6 (.int x3)) := hx.putI 6 ho5 (by decide) (by decide)
  subst hF
  exact hx
theorem x_Th_give (cs : Nat → ClassId) (lim : Nat × Nat) (M : gMem) (a0 : Nat) (x1 : Int32) (x2 : Int32) (hM : MOk M) (hS : S_Th_give cs lim M a0 x1 x2) : Ext [] [(11, 0)] false M (F_Th_give cs M a0 x1 x2) := by
  generalize hF : F_Th_give cs M a0 x1 x2 = Fv
  unfold F_Th_give at hF
  unfold S_Th_give at hS
  have hx : Ext [] [(11, 0)] false M M := Ext.rf hM
  by_cases hc1 : x1 < 0
  · rw [if_pos hc1] at hF hS
    subst hF
    exact hx
  · rw [if_neg hc1] at hF hS
    by_cases hc2 : 10 ≤ x1
    · rw [if_pos hc2] at hF hS
      subst hF
      exact hx
    · rw [if_neg hc2] at hF hS
      obtain ⟨ho3, hS⟩ := hS
      obtain ⟨ha4, hS⟩ := hS
      obtain ⟨hi5, hS⟩ := hS
      replace hx : Ext [] [(11, 0)] false M (aPi (cs 0) M ((cQ M a0 0).getD 0) x1.toNatClampNeg x2) := Ext.arrI hM hx ha4.2 (Or.inr (V_of (by decide) (by decide) ho3 ha4.1))
      subst hF
      exact hx
theorem x_AbL_init (cs : Nat → ClassId) (lim : Nat × Nat) (M : gMem) (a0 : Nat) (hM : MOk M) (hS : S_AbL_init cs lim M a0) : Ext [(13, 2)] [] false M (F_AbL_init cs M a0) := by
  generalize hF : F_AbL_init cs M a0 = Fv
  unfold F_AbL_init at hF
  unfold S_AbL_init at hS
  have hx : Ext [(13, 2)] [] false M M := Ext.rf hM
  obtain ⟨hs1, hS⟩ := hS
  rw [mbind_eq] at hF hS
  generalize hq_w2 : F_AbC_init cs M a0  = w2 at hF hS
  obtain ⟨ho3, hS⟩ := hS
  replace hx : Ext [(13, 2)] [] false M (cP 13 M a0 2 (.int 0)) := hx.putI 2 ho3 (by decide) (by decide)
  subst hF
  exact hx
theorem x_Ar_copyOf3 (cs : Nat → ClassId) (lim : Nat × Nat) (dE : Nat × Nat) (M : gMem) (x0 : Option Nat) (x1 : Int32) (x2 : Option Nat) (hM : MOk M) (hS : S_Ar_copyOf3 cs lim dE M x0 x1 x2) : Ext [] [] true M ((F_Ar_copyOf3 cs dE M x0 x1 x2).2) := by
  generalize hF : F_Ar_copyOf3 cs dE M x0 x1 x2 = Fv
  unfold F_Ar_copyOf3 at hF
  unfold S_Ar_copyOf3 at hS
  have hx : Ext [] [] true M M := Ext.rf hM
  by_cases hc1 : x2 = some dE.2
  · rw [if_pos hc1] at hF hS
    obtain ⟨hl2, hS⟩ := hS
    have hb3 := hx.sz.1
    replace hx : Ext [] [] true M (gnw M (1, .inl (cs 5, x1.toNatClampNeg, .inr (.inr (.inr (.inr (fun _ => none)))))) x1.toNatClampNeg) := hx.newA
    obtain ⟨ha4, hS⟩ := hS
    rw [mbind_eq] at hF hS
    generalize (if x1 < (nI (aL (gnw M (1, .inl (cs 5, x1.toNatClampNeg, .inr (.inr (.inr (.inr (fun _ => none)))))) x1.toNatClampNeg) (x0.getD 0))) then x1 else nI (aL (gnw M (1, .inl (cs 5, x1.toNatClampNeg, .inr (.inr (.inr (.inr (fun _ => none)))))) x1.toNatClampNeg) (x0.getD 0)) : Int32) = w5 at hF hS
    obtain ⟨ha6, hS⟩ := hS
    obtain ⟨ha7, hS⟩ := hS
    obtain ⟨hel8, hS⟩ := hS
    obtain ⟨hy9, hS⟩ := hS
    replace hx : Ext [] [] true M (aCq (cs 5) (gnw M (1, .inl (cs 5, x1.toNatClampNeg, .inr (.inr (.inr (.inr (fun _ => none)))))) x1.toNatClampNeg) (x0.getD 0) M.2.1 (0 : Int32).toNatClampNeg (0 : Int32).toNatClampNeg w5.toNatClampNeg) := Ext.arrQ hM hx ha7 (Or.inl hb3)
    subst hF
    exact hx
  · rw [if_neg hc1] at hF hS
    exact hS.elim
theorem x_Ar_copyOf2 (cs : Nat → ClassId) (lim : Nat × Nat) (dE : Nat × Nat) (M : gMem) (x0 : Option Nat) (x1 : Int32) (hM : MOk M) (hS : S_Ar_copyOf2 cs lim dE M x0 x1) : Ext [] [] true M ((F_Ar_copyOf2 cs dE M x0 x1).2) := by
  generalize hF : F_Ar_copyOf2 cs dE M x0 x1 = Fv
  unfold F_Ar_copyOf2 at hF
  unfold S_Ar_copyOf2 at hS
  have hx : Ext [] [] true M M := Ext.rf hM
  obtain ⟨ha1, hS⟩ := hS
  obtain ⟨hs2, hS⟩ := hS
  rw [mbind_eq] at hF hS
  replace hx := Ext.then hM hx (x_Ar_copyOf3 cs lim dE _ x0 x1 (some dE.2) hx.ok hs2) (by decide) (by decide) (by decide)
  generalize F_Ar_copyOf3 cs dE M x0 x1 (some dE.2) = w3 at hF hS hx
  subst hF
  exact hx
theorem copyOf2_fresh {cs : Nat → ClassId} {lim dE : Nat × Nat} {M : gMem} {x0 : Option Nat} {x1 : Int32} (hS : S_Ar_copyOf2 cs lim dE M x0 x1) : (F_Ar_copyOf2 cs dE M x0 x1).1 = some M.2.1 := by
  obtain ⟨-, hS, -⟩ := hS
  unfold F_Ar_copyOf2
  rw [mbind_eq]
  unfold F_Ar_copyOf3
  rw [if_pos rfl]
  rfl
theorem copyOf2_lt {cs : Nat → ClassId} {lim dE : Nat × Nat} {M : gMem} {x0 : Option Nat} {x1 : Int32} (hS : S_Ar_copyOf2 cs lim dE M x0 x1) : M.2.1 < (F_Ar_copyOf2 cs dE M x0 x1).2.2.1 := by
  obtain ⟨-, hS, -⟩ := hS
  unfold F_Ar_copyOf2
  rw [mbind_eq]
  unfold F_Ar_copyOf3
  rw [if_pos rfl]
  exact Nat.lt_succ_self _
theorem xx_AL_grow2 (cs : Nat → ClassId) (lim : Nat × Nat) (dE : Nat × Nat) (M : gMem) (a0 : Nat) (x1 : Int32) (hM : MOk M) (hS : S_AL_grow2 cs lim dE M a0 x1) : Ext [(13, 0)] [] true M (F_AL_grow2 cs dE M a0 x1).2 ∧ (F_AL_grow2 cs dE M a0 x1).1 = cQ (F_AL_grow2 cs dE M a0 x1).2 a0 0 ∧ (F_AL_grow2 cs dE M a0 x1).1 = some M.2.1 := by
  generalize hF : F_AL_grow2 cs dE M a0 x1 = Fv
  unfold F_AL_grow2 at hF
  unfold S_AL_grow2 at hS
  have hx : Ext [(13, 0)] [] true M M := Ext.rf hM
  have rd : ∀ (M1 : gMem) (r : Option Nat), cOk 13 M1 a0 → cQ (cP 13 M1 a0 0 (va_rf r)) a0 0 = r := fun M1 r ho => by
    obtain ⟨fs, e1, e2⟩ := ho
    unfold cQ cP
    rw [cO_gup, cO_of e1, List.getElem?_set_self (by rw [e2.1]; decide)]
    cases r <;> rfl
  have one : ∀ w5, (cOk 13 M a0) ∧ ((S_Ar_copyOf2 cs lim dE M (cQ M a0 0) w5) ∧ (mbind (F_Ar_copyOf2 cs dE M (cQ M a0 0) w5) (fun w8 => (cOk 13 w8.2 a0) ∧ (True)))) → mbind (F_Ar_copyOf2 cs dE M (cQ M a0 0) w5) (fun w8 => (w8.1, cP 13 w8.2 a0 0 (va_rf w8.1))) = Fv → Ext [(13, 0)] [] true M Fv.2 ∧ Fv.1 = cQ Fv.2 a0 0 ∧ Fv.1 = some M.2.1 := by
    intro w5 hS hF
    obtain ⟨ho, hs, hS⟩ := hS
    rw [mbind_eq] at hF hS
    have hx2 := Ext.then hM hx (x_Ar_copyOf2 cs lim dE _ _ _ hx.ok hs) (by decide) (by decide) (by decide)
    have hfr := copyOf2_fresh hs
    have hlt := copyOf2_lt hs
    generalize F_Ar_copyOf2 cs dE M (cQ M a0 0) w5 = w8 at hF hS hx2 hfr hlt
    obtain ⟨r, M1⟩ := w8
    dsimp only at hF hS hx2 hfr hlt
    subst hfr
    subst hF
    exact ⟨hx2.putA 0 hS.1 (by decide) (by decide) (Nat.le_refl _) hlt, (rd _ _ hS.1).symm, rfl⟩
  obtain ⟨ho, ha, hS⟩ := hS
  by_cases h1 : 0 < nI (aL M ((cQ M a0 0).getD 0))
  · rw [if_pos h1] at hF hS
    obtain ⟨-, hS⟩ := hS
    rw [mbind_eq] at hF hS
    exact one _ hS hF
  · rw [if_neg h1] at hF hS
    obtain ⟨-, hS⟩ := hS
    by_cases h2 : cQ M a0 0 = some dE.1
    · rw [if_pos h2] at hF hS
      rw [mbind_eq] at hF hS
      generalize (if 10 < x1 then x1 else 10 : Int32) = w12 at hF hS
      obtain ⟨-, hp, -⟩ := hS
      subst hF
      exact ⟨(hx.newA).putA 0 hp (by decide) (by decide) (Nat.le_refl _) (Nat.lt_succ_self _), (rd _ _ hp).symm, rfl⟩
    · rw [if_neg h2] at hF hS
      obtain ⟨-, hS⟩ := hS
      rw [mbind_eq] at hF hS
      exact one _ hS hF
theorem x_AL_grow2 (cs : Nat → ClassId) (lim : Nat × Nat) (dE : Nat × Nat) (M : gMem) (a0 : Nat) (x1 : Int32) (hM : MOk M) (hS : S_AL_grow2 cs lim dE M a0 x1) : Ext [(13, 0)] [] true M (F_AL_grow2 cs dE M a0 x1).2 := (xx_AL_grow2 cs lim dE M a0 x1 hM hS).1
theorem x_AL_grow (cs : Nat → ClassId) (lim : Nat × Nat) (dE : Nat × Nat) (M : gMem) (a0 : Nat) (hM : MOk M) (hS : S_AL_grow cs lim dE M a0) : Ext [(13, 0)] [] true M ((F_AL_grow cs dE M a0).2) := by
  generalize hF : F_AL_grow cs dE M a0 = Fv
  unfold F_AL_grow at hF
  unfold S_AL_grow at hS
  have hx : Ext [(13, 0)] [] true M M := Ext.rf hM
  obtain ⟨ho1, hS⟩ := hS
  obtain ⟨ho2, hS⟩ := hS
  obtain ⟨hs3, hS⟩ := hS
  rw [mbind_eq] at hF hS
  replace hx := Ext.then hM hx (x_AL_grow2 cs lim dE _ a0 ((cI M a0 1) + 1) hx.ok hs3) (by decide) (by decide) (by decide)
  generalize F_AL_grow2 cs dE M a0 ((cI M a0 1) + 1) = w4 at hF hS hx
  subst hF
  exact hx
theorem x_AL_add (cs : Nat → ClassId) (lim : Nat × Nat) (dE : Nat × Nat) (M : gMem) (a0 : Nat) (x1 : Option Nat) (hM : MOk M) (hS : S_AL_add cs lim dE M a0 x1) : Ext [(13, 0), (13, 1), (13, 2)] [(13, 0)] true M (F_AL_add cs dE M a0 x1).2 := by
  unfold F_AL_add
  rw [mbind_eq]
  obtain ⟨ho, -, ho1, -, -, hS, -⟩ := hS
  have hx : Ext [(13, 0), (13, 1), (13, 2)] [(13, 0)] true M (cP 13 M a0 2 (.int (cI M a0 2 + 1))) := (Ext.rf hM).putI 2 ho (by decide) (by decide)
  generalize cP 13 M a0 2 (.int (cI M a0 2 + 1)) = M1 at hx ho1 hS ⊢
  generalize hF : F_AL_add2 cs dE M1 a0 x1 (cQ M1 a0 0) (cI M1 a0 1) = Fv
  unfold F_AL_add2 at hF
  unfold S_AL_add2 at hS
  show Ext _ _ _ _ Fv
  obtain ⟨ha, hS⟩ := hS
  by_cases h1 : cI M1 a0 1 = nI (aL M1 ((cQ M1 a0 0).getD 0))
  · rw [if_pos h1] at hF hS
    obtain ⟨-, hs, hS⟩ := hS
    rw [mbind_eq] at hF hS
    obtain ⟨-, -, hs2, -⟩ := hs
    have hg := xx_AL_grow2 cs lim dE _ _ _ hx.ok hs2
    have e : F_AL_grow cs dE M1 a0 = F_AL_grow2 cs dE M1 a0 (cI M1 a0 1 + 1) := rfl
    rw [e] at hF hS
    generalize F_AL_grow2 cs dE M1 a0 (cI M1 a0 1 + 1) = w9 at hF hS hg
    obtain ⟨r, M2⟩ := w9
    dsimp only at hF hS hg
    obtain ⟨g1, g2, g3⟩ := hg
    subst g3
    have hsz := hx.sz.1
    replace hx := Ext.then hM hx g1 (by decide) (by decide) (by decide)
    obtain ⟨ha2, -, -, hp, -⟩ := hS
    have hx2 : Ext [(13, 0), (13, 1), (13, 2)] [(13, 0)] true M (aPq (cs 5) M2 ((some M1.2.1).getD 0) (cI M1 a0 1).toNatClampNeg x1) := Ext.arrQ hM hx ha2.2 (Or.inl hsz)
    subst hF
    exact hx2.putI 1 hp (by decide) (by decide)
  · rw [if_neg h1] at hF hS
    obtain ⟨ha2, -, -, hp, -⟩ := hS
    have hx2 : Ext [(13, 0), (13, 1), (13, 2)] [(13, 0)] true M (aPq (cs 5) M1 ((cQ M1 a0 0).getD 0) (cI M1 a0 1).toNatClampNeg x1) := Ext.arrQ hM hx ha2.2 (Or.inr (V_of (by decide) (by decide) ho1 ha2.1))
    subst hF
    exact hx2.putI 1 hp (by decide) (by decide)
theorem x_St_reset (cs : Nat → ClassId) (lim : Nat × Nat) (M : gMem) (a0 : Nat) (hM : MOk M) (hS : S_St_reset cs lim M a0) : Ext [(9, 2), (9, 3), (9, 4)] [] false M (F_St_reset cs M a0) := by
  generalize hF : F_St_reset cs M a0 = Fv
  unfold F_St_reset at hF
  unfold S_St_reset at hS
  have hx : Ext [(9, 2), (9, 3), (9, 4)] [] false M M := Ext.rf hM
  obtain ⟨ho1, hS⟩ := hS
  replace hx : Ext [(9, 2), (9, 3), (9, 4)] [] false M (cP 9 M a0 2 (.int 0)) := hx.putI 2 ho1 (by decide) (by decide)
  obtain ⟨ho2, hS⟩ := hS
  replace hx : Ext [(9, 2), (9, 3), (9, 4)] [] false M (cP 9 (cP 9 M a0 2 (.int 0)) a0 3 (.int 0)) := hx.putI 3 ho2 (by decide) (by decide)
  obtain ⟨ho3, hS⟩ := hS
  replace hx : Ext [(9, 2), (9, 3), (9, 4)] [] false M (cP 9 (cP 9 (cP 9 M a0 2 (.int 0)) a0 3 (.int 0)) a0 4 (va_rf (none : Option Nat))) := hx.putQ 4 ho3 (by decide) (by decide) (by decide)
  subst hF
  exact hx
theorem x_St_takeFrame (cs : Nat → ClassId) (lim : Nat × Nat) (dE : Nat × Nat) (M : gMem) (a0 : Nat) (hM : MOk M) (hS : S_St_takeFrame cs lim dE M a0) : Ext [(9, 2), (9, 4), (10, 0), (10, 1), (13, 0), (13, 1), (13, 2)] [(13, 0)] true M ((F_St_takeFrame cs dE M a0).2) := by
  generalize hF : F_St_takeFrame cs dE M a0 = Fv
  unfold F_St_takeFrame at hF
  unfold S_St_takeFrame at hS
  have hx : Ext [(9, 2), (9, 4), (10, 0), (10, 1), (13, 0), (13, 1), (13, 2)] [(13, 0)] true M M := Ext.rf hM
  obtain ⟨ho1, hS⟩ := hS
  by_cases hc2 : (cQ M a0 4) = none
  · rw [if_pos hc2] at hF hS
    obtain ⟨ho3, hS⟩ := hS
    obtain ⟨ho4, hS⟩ := hS
    obtain ⟨ho5, hS⟩ := hS
    obtain ⟨hs6, hS⟩ := hS
    rw [mbind_eq] at hF hS
    generalize hq_w7 : F_AL_size cs dE M ((cQ M a0 0).getD 0)  = w7 at hF hS
    by_cases hc8 : (cI M a0 2) < w7
    · rw [if_pos hc8] at hF hS
      obtain ⟨ho9, hS⟩ := hS
      obtain ⟨ho10, hS⟩ := hS
      obtain ⟨ho11, hS⟩ := hS
      obtain ⟨hs12, hS⟩ := hS
      rw [mbind_eq] at hF hS
      generalize hq_w13 : F_AL_get cs dE M ((cQ M a0 0).getD 0) (cI M a0 2) = w13 at hF hS
      obtain ⟨hv14, hS⟩ := hS
      obtain ⟨ho15, hS⟩ := hS
      obtain ⟨ho16, hS⟩ := hS
      replace hx : Ext [(9, 2), (9, 4), (10, 0), (10, 1), (13, 0), (13, 1), (13, 2)] [(13, 0)] true M (cP 9 M a0 2 (.int ((cI M a0 2) + 1))) := hx.putI 2 ho16 (by decide) (by decide)
      subst hF
      exact hx
    · rw [if_neg hc8] at hF hS
      obtain ⟨ho17, hS⟩ := hS
      obtain ⟨hl18, hS⟩ := hS
      replace hx : Ext [(9, 2), (9, 4), (10, 0), (10, 1), (13, 0), (13, 1), (13, 2)] [(13, 0)] true M (gnw M (1, .inr (10, [.null, .int 0, .int 0, .null, .null])) 5) := hx.newO (by decide)
      obtain ⟨hs19, hS⟩ := hS
      rw [mbind_eq] at hF hS
      replace hx := Ext.then hM hx (x_Fr_init cs lim _ M.2.1  hx.ok hs19) (by decide) (by decide) (by decide)
      generalize F_Fr_init cs (gnw M (1, .inr (10, [.null, .int 0, .int 0, .null, .null])) 5) M.2.1  = w20 at hF hS hx
      obtain ⟨ho21, hS⟩ := hS
      obtain ⟨hs22, hS⟩ := hS
      rw [mbind_eq] at hF hS
      replace hx := Ext.then hM hx (x_AL_add cs lim dE _ ((cQ M a0 0).getD 0) (some M.2.1) hx.ok hs22) (by decide) (by decide) (by decide)
      generalize F_AL_add cs dE w20 ((cQ M a0 0).getD 0) (some M.2.1) = w23 at hF hS hx
      obtain ⟨ho24, hS⟩ := hS
      obtain ⟨ho25, hS⟩ := hS
      obtain ⟨ho26, hS⟩ := hS
      obtain ⟨hs27, hS⟩ := hS
      rw [mbind_eq] at hF hS
      generalize hq_w28 : F_AL_get cs dE w23.2 ((cQ w23.2 a0 0).getD 0) (cI w23.2 a0 2) = w28 at hF hS
      obtain ⟨hv29, hS⟩ := hS
      obtain ⟨ho30, hS⟩ := hS
      obtain ⟨ho31, hS⟩ := hS
      replace hx : Ext [(9, 2), (9, 4), (10, 0), (10, 1), (13, 0), (13, 1), (13, 2)] [(13, 0)] true M (cP 9 w23.2 a0 2 (.int ((cI w23.2 a0 2) + 1))) := hx.putI 2 ho31 (by decide) (by decide)
      subst hF
      exact hx
  · rw [if_neg hc2] at hF hS
    obtain ⟨ho32, hS⟩ := hS
    obtain ⟨ho33, hS⟩ := hS
    replace hx : Ext [(9, 2), (9, 4), (10, 0), (10, 1), (13, 0), (13, 1), (13, 2)] [(13, 0)] true M (cP 9 M a0 4 (va_rf (cQ M ((cQ M a0 4).getD 0) 4))) := hx.putQ 4 ho33 (by decide) (by decide) (by decide)
    subst hF
    exact hx
theorem x_St_giveBack (cs : Nat → ClassId) (lim : Nat × Nat) (M : gMem) (a0 : Nat) (x1 : Option Nat) (hM : MOk M) (hS : S_St_giveBack cs lim M a0 x1) : Ext [(9, 4), (10, 3), (10, 4)] [] false M (F_St_giveBack cs M a0 x1) := by
  generalize hF : F_St_giveBack cs M a0 x1 = Fv
  unfold F_St_giveBack at hF
  unfold S_St_giveBack at hS
  have hx : Ext [(9, 4), (10, 3), (10, 4)] [] false M M := Ext.rf hM
  obtain ⟨ho1, hS⟩ := hS
  obtain ⟨ho2, hS⟩ := hS
  replace hx : Ext [(9, 4), (10, 3), (10, 4)] [] false M (cP 10 M (x1.getD 0) 4 (va_rf (cQ M a0 4))) := hx.putQ 4 (cOq.at ho2).2 (by decide) (by decide) (by decide)
  obtain ⟨ho3, hS⟩ := hS
  replace hx : Ext [(9, 4), (10, 3), (10, 4)] [] false M (cP 10 (cP 10 M (x1.getD 0) 4 (va_rf (cQ M a0 4))) (x1.getD 0) 3 (va_rf (none : Option Nat))) := hx.putQ 3 (cOq.at ho3).2 (by decide) (by decide) (by decide)
  obtain ⟨ho4, hS⟩ := hS
  replace hx : Ext [(9, 4), (10, 3), (10, 4)] [] false M (cP 9 (cP 10 (cP 10 M (x1.getD 0) 4 (va_rf (cQ M a0 4))) (x1.getD 0) 3 (va_rf (none : Option Nat))) a0 4 (va_rf x1)) := hx.putQ 4 ho4 (by decide) (by decide) (by decide)
  subst hF
  exact hx
theorem x_St_takeThing (cs : Nat → ClassId) (lim : Nat × Nat) (dE : Nat × Nat) (M : gMem) (a0 : Nat) (hM : MOk M) (hS : S_St_takeThing cs lim dE M a0) : Ext [(9, 3), (11, 0), (13, 0), (13, 1), (13, 2)] [(13, 0)] true M ((F_St_takeThing cs dE M a0).2) := by
  generalize hF : F_St_takeThing cs dE M a0 = Fv
  unfold F_St_takeThing at hF
  unfold S_St_takeThing at hS
  have hx : Ext [(9, 3), (11, 0), (13, 0), (13, 1), (13, 2)] [(13, 0)] true M M := Ext.rf hM
  obtain ⟨ho1, hS⟩ := hS
  obtain ⟨ho2, hS⟩ := hS
  obtain ⟨ho3, hS⟩ := hS
  obtain ⟨hs4, hS⟩ := hS
  rw [mbind_eq] at hF hS
  generalize hq_w5 : F_AL_size cs dE M ((cQ M a0 1).getD 0)  = w5 at hF hS
  by_cases hc6 : (cI M a0 3) < w5
  · rw [if_pos hc6] at hF hS
    obtain ⟨ho7, hS⟩ := hS
    obtain ⟨ho8, hS⟩ := hS
    replace hx : Ext [(9, 3), (11, 0), (13, 0), (13, 1), (13, 2)] [(13, 0)] true M (cP 9 M a0 3 (.int ((cI M a0 3) + 1))) := hx.putI 3 ho8 (by decide) (by decide)
    obtain ⟨ho9, hS⟩ := hS
    subst hF
    exact hx
  · rw [if_neg hc6] at hF hS
    obtain ⟨ho10, hS⟩ := hS
    obtain ⟨hl11, hS⟩ := hS
    replace hx : Ext [(9, 3), (11, 0), (13, 0), (13, 1), (13, 2)] [(13, 0)] true M (gnw M (1, .inr (11, [.null, .int 0, .int 0, .int 0, .null, .null, .int 0])) 7) := hx.newO (by decide)
    obtain ⟨hs12, hS⟩ := hS
    rw [mbind_eq] at hF hS
    replace hx := Ext.then hM hx (x_Th_init cs lim _ M.2.1  hx.ok hs12) (by decide) (by decide) (by decide)
    generalize F_Th_init cs (gnw M (1, .inr (11, [.null, .int 0, .int 0, .int 0, .null, .null, .int 0])) 7) M.2.1  = w13 at hF hS hx
    obtain ⟨ho14, hS⟩ := hS
    obtain ⟨hs15, hS⟩ := hS
    rw [mbind_eq] at hF hS
    replace hx := Ext.then hM hx (x_AL_add cs lim dE _ ((cQ M a0 1).getD 0) (some M.2.1) hx.ok hs15) (by decide) (by decide) (by decide)
    generalize F_AL_add cs dE w13 ((cQ M a0 1).getD 0) (some M.2.1) = w16 at hF hS hx
    obtain ⟨ho17, hS⟩ := hS
    obtain ⟨ho18, hS⟩ := hS
    replace hx : Ext [(9, 3), (11, 0), (13, 0), (13, 1), (13, 2)] [(13, 0)] true M (cP 9 w16.2 a0 3 (.int ((cI w16.2 a0 3) + 1))) := hx.putI 3 ho18 (by decide) (by decide)
    obtain ⟨ho19, hS⟩ := hS
    subst hF
    exact hx
theorem x_Ma_reset (cs : Nat → ClassId) (lim : Nat × Nat) (M : gMem) (a0 : Nat) (hM : MOk M) (hS : S_Ma_reset cs lim M a0) : Ext [(8, 4), (8, 5), (8, 6), (8, 7), (8, 8), (8, 9), (8, 10)] [] false M (F_Ma_reset cs M a0) := by
  generalize hF : F_Ma_reset cs M a0 = Fv
  unfold F_Ma_reset at hF
  unfold S_Ma_reset at hS
  have hx : Ext [(8, 4), (8, 5), (8, 6), (8, 7), (8, 8), (8, 9), (8, 10)] [] false M M := Ext.rf hM
  obtain ⟨ho1, hS⟩ := hS
  replace hx : Ext [(8, 4), (8, 5), (8, 6), (8, 7), (8, 8), (8, 9), (8, 10)] [] false M (cP 8 M a0 4 (.int 0)) := hx.putI 4 ho1 (by decide) (by decide)
  obtain ⟨ho2, hS⟩ := hS
  replace hx : Ext [(8, 4), (8, 5), (8, 6), (8, 7), (8, 8), (8, 9), (8, 10)] [] false M (cP 8 (cP 8 M a0 4 (.int 0)) a0 5 (.int 0)) := hx.putI 5 ho2 (by decide) (by decide)
  obtain ⟨ho3, hS⟩ := hS
  replace hx : Ext [(8, 4), (8, 5), (8, 6), (8, 7), (8, 8), (8, 9), (8, 10)] [] false M (cP 8 (cP 8 (cP 8 M a0 4 (.int 0)) a0 5 (.int 0)) a0 6 (.int 0)) := hx.putI 6 ho3 (by decide) (by decide)
  obtain ⟨ho4, hS⟩ := hS
  replace hx : Ext [(8, 4), (8, 5), (8, 6), (8, 7), (8, 8), (8, 9), (8, 10)] [] false M (cP 8 (cP 8 (cP 8 (cP 8 M a0 4 (.int 0)) a0 5 (.int 0)) a0 6 (.int 0)) a0 7 (.int 0)) := hx.putI 7 ho4 (by decide) (by decide)
  obtain ⟨ho5, hS⟩ := hS
  replace hx : Ext [(8, 4), (8, 5), (8, 6), (8, 7), (8, 8), (8, 9), (8, 10)] [] false M (cP 8 (cP 8 (cP 8 (cP 8 (cP 8 M a0 4 (.int 0)) a0 5 (.int 0)) a0 6 (.int 0)) a0 7 (.int 0)) a0 8 (.int 0)) := hx.putI 8 ho5 (by decide) (by decide)
  obtain ⟨ho6, hS⟩ := hS
  replace hx : Ext [(8, 4), (8, 5), (8, 6), (8, 7), (8, 8), (8, 9), (8, 10)] [] false M (cP 8 (cP 8 (cP 8 (cP 8 (cP 8 (cP 8 M a0 4 (.int 0)) a0 5 (.int 0)) a0 6 (.int 0)) a0 7 (.int 0)) a0 8 (.int 0)) a0 9 (.int (-1))) := hx.putI 9 ho6 (by decide) (by decide)
  obtain ⟨ho7, hS⟩ := hS
  replace hx : Ext [(8, 4), (8, 5), (8, 6), (8, 7), (8, 8), (8, 9), (8, 10)] [] false M (cP 8 (cP 8 (cP 8 (cP 8 (cP 8 (cP 8 (cP 8 M a0 4 (.int 0)) a0 5 (.int 0)) a0 6 (.int 0)) a0 7 (.int 0)) a0 8 (.int 0)) a0 9 (.int (-1))) a0 10 (va_rf (none : Option Nat))) := hx.putQ 10 ho7 (by decide) (by decide) (by decide)
  subst hF
  exact hx
theorem x_Ma_unload (cs : Nat → ClassId) (lim : Nat × Nat) (M : gMem) (a0 : Nat) (hM : MOk M) (hS : S_Ma_unload cs lim M a0) : Ext [(8, 2), (8, 4), (8, 5), (8, 6), (8, 7), (8, 8), (8, 9), (8, 10)] [] false M (F_Ma_unload cs M a0) := by
  generalize hF : F_Ma_unload cs M a0 = Fv
  unfold F_Ma_unload at hF
  unfold S_Ma_unload at hS
  have hx : Ext [(8, 2), (8, 4), (8, 5), (8, 6), (8, 7), (8, 8), (8, 9), (8, 10)] [] false M M := Ext.rf hM
  obtain ⟨ho1, hS⟩ := hS
  replace hx : Ext [(8, 2), (8, 4), (8, 5), (8, 6), (8, 7), (8, 8), (8, 9), (8, 10)] [] false M (cP 8 M a0 2 (.int 0)) := hx.putI 2 ho1 (by decide) (by decide)
  obtain ⟨ho2, hS⟩ := hS
  obtain ⟨hs3, hS⟩ := hS
  rw [mbind_eq] at hF hS
  replace hx := Ext.then hM hx (x_Ma_reset cs lim _ a0  hx.ok hs3) (by decide) (by decide) (by decide)
  generalize F_Ma_reset cs (cP 8 M a0 2 (.int 0)) a0  = w4 at hF hS hx
  subst hF
  exact hx
theorem x_Ma_load (cs : Nat → ClassId) (lim : Nat × Nat) (M : gMem) (a0 : Nat) (x1 : Int32) (hM : MOk M) (hS : S_Ma_load cs lim M a0 x1) : Ext [(8, 2), (8, 3), (8, 4), (8, 5), (8, 6), (8, 7), (8, 8), (8, 9), (8, 10)] [] false M (F_Ma_load cs M a0 x1) := by
  generalize hF : F_Ma_load cs M a0 x1 = Fv
  unfold F_Ma_load at hF
  unfold S_Ma_load at hS
  have hx : Ext [(8, 2), (8, 3), (8, 4), (8, 5), (8, 6), (8, 7), (8, 8), (8, 9), (8, 10)] [] false M M := Ext.rf hM
  obtain ⟨ho1, hS⟩ := hS
  replace hx : Ext [(8, 2), (8, 3), (8, 4), (8, 5), (8, 6), (8, 7), (8, 8), (8, 9), (8, 10)] [] false M (cP 8 M a0 2 (.int 1)) := hx.putI 2 ho1 (by decide) (by decide)
  obtain ⟨ho2, hS⟩ := hS
  obtain ⟨hb3, hS⟩ := hS
  replace hx : Ext [(8, 2), (8, 3), (8, 4), (8, 5), (8, 6), (8, 7), (8, 8), (8, 9), (8, 10)] [] false M (cP 8 (cP 8 M a0 2 (.int 1)) a0 3 (.int x1)) := hx.putI 3 ho2 (by decide) (by decide)
  obtain ⟨ho4, hS⟩ := hS
  obtain ⟨hs5, hS⟩ := hS
  rw [mbind_eq] at hF hS
  replace hx := Ext.then hM hx (x_Ma_reset cs lim _ a0  hx.ok hs5) (by decide) (by decide) (by decide)
  generalize F_Ma_reset cs (cP 8 (cP 8 M a0 2 (.int 1)) a0 3 (.int x1)) a0  = w6 at hF hS hx
  subst hF
  exact hx
theorem x_Ma_begin (cs : Nat → ClassId) (lim : Nat × Nat) (dE : Nat × Nat) (M : gMem) (a0 : Nat) (hM : MOk M) (hS : S_Ma_begin cs lim dE M a0) : Ext [(8, 4), (8, 5), (8, 6), (8, 7), (8, 8), (8, 9), (8, 10), (9, 2), (9, 3), (9, 4), (10, 0), (10, 1), (10, 2), (10, 3), (10, 4), (13, 0), (13, 1), (13, 2)] [(10, 0), (13, 0)] true M (F_Ma_begin cs dE M a0) := by
  generalize hF : F_Ma_begin cs dE M a0 = Fv
  unfold F_Ma_begin at hF
  unfold S_Ma_begin at hS
  have hx : Ext [(8, 4), (8, 5), (8, 6), (8, 7), (8, 8), (8, 9), (8, 10), (9, 2), (9, 3), (9, 4), (10, 0), (10, 1), (10, 2), (10, 3), (10, 4), (13, 0), (13, 1), (13, 2)] [(10, 0), (13, 0)] true M M := Ext.rf hM
  obtain ⟨ho1, hS⟩ := hS
  obtain ⟨hs2, hS⟩ := hS
  rw [mbind_eq] at hF hS
  replace hx := Ext.then hM hx (x_Ma_reset cs lim _ a0  hx.ok hs2) (by decide) (by decide) (by decide)
  generalize F_Ma_reset cs M a0  = w3 at hF hS hx
  obtain ⟨ho4, hS⟩ := hS
  obtain ⟨ho5, hS⟩ := hS
  obtain ⟨hs6, hS⟩ := hS
  rw [mbind_eq] at hF hS
  replace hx := Ext.then hM hx (x_St_reset cs lim _ ((cQ w3 a0 1).getD 0)  hx.ok hs6) (by decide) (by decide) (by decide)
  generalize F_St_reset cs w3 ((cQ w3 a0 1).getD 0)  = w7 at hF hS hx
  obtain ⟨ho8, hS⟩ := hS
  obtain ⟨ho9, hS⟩ := hS
  obtain ⟨hs10, hS⟩ := hS
  rw [mbind_eq] at hF hS
  replace hx := Ext.then hM hx (x_St_takeFrame cs lim dE _ ((cQ w7 a0 1).getD 0)  hx.ok hs10) (by decide) (by decide) (by decide)
  generalize F_St_takeFrame cs dE w7 ((cQ w7 a0 1).getD 0)  = w11 at hF hS hx
  obtain ⟨ho12, hS⟩ := hS
  replace hx : Ext [(8, 4), (8, 5), (8, 6), (8, 7), (8, 8), (8, 9), (8, 10), (9, 2), (9, 3), (9, 4), (10, 0), (10, 1), (10, 2), (10, 3), (10, 4), (13, 0), (13, 1), (13, 2)] [(10, 0), (13, 0)] true M (cP 8 w11.2 a0 10 (va_rf w11.1)) := hx.putQ 10 ho12 (by decide) (by decide) (by decide)
  obtain ⟨ho13, hS⟩ := hS
  obtain ⟨ho14, hS⟩ := hS
  obtain ⟨hs15, hS⟩ := hS
  rw [mbind_eq] at hF hS
  replace hx := Ext.then hM hx (x_Fr_open cs lim _ ((cQ (cP 8 w11.2 a0 10 (va_rf w11.1)) a0 10).getD 0) (none : Option Nat) 0 hx.ok hs15) (by decide) (by decide) (by decide)
  generalize F_Fr_open cs (cP 8 w11.2 a0 10 (va_rf w11.1)) ((cQ (cP 8 w11.2 a0 10 (va_rf w11.1)) a0 10).getD 0) (none : Option Nat) 0 = w16 at hF hS hx
  obtain ⟨ho17, hS⟩ := hS
  obtain ⟨ho18, hS⟩ := hS
  replace hx : Ext [(8, 4), (8, 5), (8, 6), (8, 7), (8, 8), (8, 9), (8, 10), (9, 2), (9, 3), (9, 4), (10, 0), (10, 1), (10, 2), (10, 3), (10, 4), (13, 0), (13, 1), (13, 2)] [(10, 0), (13, 0)] true M (cP 10 w16 ((cQ w16 a0 10).getD 0) 4 (va_rf (none : Option Nat))) := hx.putQ 4 (cOq.at ho18).2 (by decide) (by decide) (by decide)
  obtain ⟨ho19, hS⟩ := hS
  replace hx : Ext [(8, 4), (8, 5), (8, 6), (8, 7), (8, 8), (8, 9), (8, 10), (9, 2), (9, 3), (9, 4), (10, 0), (10, 1), (10, 2), (10, 3), (10, 4), (13, 0), (13, 1), (13, 2)] [(10, 0), (13, 0)] true M (cP 8 (cP 10 w16 ((cQ w16 a0 10).getD 0) 4 (va_rf (none : Option Nat))) a0 4 (.int 1)) := hx.putI 4 ho19 (by decide) (by decide)
  subst hF
  exact hx
theorem x_Ma_bind (cs : Nat → ClassId) (lim : Nat × Nat) (M : gMem) (a0 : Nat) (x1 : Option Nat) (x2 : Int32) (hM : MOk M) (hS : S_Ma_bind cs lim M a0 x1 x2) : Ext [(10, 1)] [(10, 0)] false M (F_Ma_bind cs M a0 x1 x2) := by
  generalize hF : F_Ma_bind cs M a0 x1 x2 = Fv
  unfold F_Ma_bind at hF
  unfold S_Ma_bind at hS
  have hx : Ext [(10, 1)] [(10, 0)] false M M := Ext.rf hM
  obtain ⟨ho1, hS⟩ := hS
  obtain ⟨hs2, hS⟩ := hS
  rw [mbind_eq] at hF hS
  replace hx := Ext.then hM hx (x_Fr_pop cs lim _ (x1.getD 0)  hx.ok hs2) (by decide) (by decide) (by decide)
  generalize F_Fr_pop cs M (x1.getD 0)  = w3 at hF hS hx
  obtain ⟨ho4, hS⟩ := hS
  obtain ⟨hs5, hS⟩ := hS
  rw [mbind_eq] at hF hS
  generalize hq_w6 : F_Fr_valueOf cs w3.2 (x1.getD 0) x2 = w6 at hF hS
  obtain ⟨ho7, hS⟩ := hS
  obtain ⟨hs8, hS⟩ := hS
  rw [mbind_eq] at hF hS
  replace hx := Ext.then hM hx (x_Fr_push cs lim _ (x1.getD 0) w6 hx.ok hs8) (by decide) (by decide) (by decide)
  generalize F_Fr_push cs w3.2 (x1.getD 0) w6 = w9 at hF hS hx
  obtain ⟨ho10, hS⟩ := hS
  obtain ⟨hs11, hS⟩ := hS
  rw [mbind_eq] at hF hS
  replace hx := Ext.then hM hx (x_Fr_give cs lim _ (x1.getD 0) x2 w3.1 hx.ok hs11) (by decide) (by decide) (by decide)
  generalize F_Fr_give cs w9 (x1.getD 0) x2 w3.1 = w12 at hF hS hx
  subst hF
  exact hx
theorem x_Ma_unbind (cs : Nat → ClassId) (lim : Nat × Nat) (M : gMem) (a0 : Nat) (x1 : Option Nat) (x2 : Int32) (hM : MOk M) (hS : S_Ma_unbind cs lim M a0 x1 x2) : Ext [(10, 1)] [(10, 0)] false M (F_Ma_unbind cs M a0 x1 x2) := by
  generalize hF : F_Ma_unbind cs M a0 x1 x2 = Fv
  unfold F_Ma_unbind at hF
  unfold S_Ma_unbind at hS
  have hx : Ext [(10, 1)] [(10, 0)] false M M := Ext.rf hM
  obtain ⟨ho1, hS⟩ := hS
  obtain ⟨hs2, hS⟩ := hS
  rw [mbind_eq] at hF hS
  replace hx := Ext.then hM hx (x_Fr_pop cs lim _ (x1.getD 0)  hx.ok hs2) (by decide) (by decide) (by decide)
  generalize F_Fr_pop cs M (x1.getD 0)  = w3 at hF hS hx
  obtain ⟨ho4, hS⟩ := hS
  obtain ⟨hs5, hS⟩ := hS
  rw [mbind_eq] at hF hS
  replace hx := Ext.then hM hx (x_Fr_pop cs lim _ (x1.getD 0)  hx.ok hs5) (by decide) (by decide) (by decide)
  generalize F_Fr_pop cs w3.2 (x1.getD 0)  = w6 at hF hS hx
  obtain ⟨ho7, hS⟩ := hS
  obtain ⟨hs8, hS⟩ := hS
  rw [mbind_eq] at hF hS
  replace hx := Ext.then hM hx (x_Fr_give cs lim _ (x1.getD 0) x2 w6.1 hx.ok hs8) (by decide) (by decide) (by decide)
  generalize F_Fr_give cs w6.2 (x1.getD 0) x2 w6.1 = w9 at hF hS hx
  obtain ⟨ho10, hS⟩ := hS
  obtain ⟨hs11, hS⟩ := hS
  rw [mbind_eq] at hF hS
  replace hx := Ext.then hM hx (x_Fr_push cs lim _ (x1.getD 0) w3.1 hx.ok hs11) (by decide) (by decide) (by decide)
  generalize F_Fr_push cs w9 (x1.getD 0) w3.1 = w12 at hF hS hx
  subst hF
  exact hx
theorem x_Ma_combine (cs : Nat → ClassId) (lim : Nat × Nat) (M : gMem) (a0 : Nat) (x1 : Option Nat) (x2 : Int32) (hM : MOk M) (hS : S_Ma_combine cs lim M a0 x1 x2) : Ext [(10, 1)] [(10, 0)] false M (F_Ma_combine cs M a0 x1 x2) := by
  generalize hF : F_Ma_combine cs M a0 x1 x2 = Fv
  unfold F_Ma_combine at hF
  unfold S_Ma_combine at hS
  have hx : Ext [(10, 1)] [(10, 0)] false M M := Ext.rf hM
  obtain ⟨ho1, hS⟩ := hS
  obtain ⟨hs2, hS⟩ := hS
  rw [mbind_eq] at hF hS
  replace hx := Ext.then hM hx (x_Fr_pop cs lim _ (x1.getD 0)  hx.ok hs2) (by decide) (by decide) (by decide)
  generalize F_Fr_pop cs M (x1.getD 0)  = w3 at hF hS hx
  obtain ⟨ho4, hS⟩ := hS
  obtain ⟨hs5, hS⟩ := hS
  rw [mbind_eq] at hF hS
  replace hx := Ext.then hM hx (x_Fr_pop cs lim _ (x1.getD 0)  hx.ok hs5) (by decide) (by decide) (by decide)
  generalize F_Fr_pop cs w3.2 (x1.getD 0)  = w6 at hF hS hx
  by_cases hc7 : x2 = 0
  · rw [if_pos hc7] at hF hS
    obtain ⟨ho8, hS⟩ := hS
    obtain ⟨hs9, hS⟩ := hS
    rw [mbind_eq] at hF hS
    replace hx := Ext.then hM hx (x_Fr_push cs lim _ (x1.getD 0) (w6.1 + w3.1) hx.ok hs9) (by decide) (by decide) (by decide)
    generalize F_Fr_push cs w6.2 (x1.getD 0) (w6.1 + w3.1) = w10 at hF hS hx
    subst hF
    exact hx
  · rw [if_neg hc7] at hF hS
    by_cases hc11 : x2 = 1
    · rw [if_pos hc11] at hF hS
      obtain ⟨ho12, hS⟩ := hS
      obtain ⟨hs13, hS⟩ := hS
      rw [mbind_eq] at hF hS
      replace hx := Ext.then hM hx (x_Fr_push cs lim _ (x1.getD 0) (w6.1 - w3.1) hx.ok hs13) (by decide) (by decide) (by decide)
      generalize F_Fr_push cs w6.2 (x1.getD 0) (w6.1 - w3.1) = w14 at hF hS hx
      subst hF
      exact hx
    · rw [if_neg hc11] at hF hS
      by_cases hc15 : x2 = 2
      · rw [if_pos hc15] at hF hS
        obtain ⟨ho16, hS⟩ := hS
        obtain ⟨hs17, hS⟩ := hS
        rw [mbind_eq] at hF hS
        replace hx := Ext.then hM hx (x_Fr_push cs lim _ (x1.getD 0) (w6.1 * w3.1) hx.ok hs17) (by decide) (by decide) (by decide)
        generalize F_Fr_push cs w6.2 (x1.getD 0) (w6.1 * w3.1) = w18 at hF hS hx
        subst hF
        exact hx
      · rw [if_neg hc15] at hF hS
        by_cases hc19 : x2 = 3
        · rw [if_pos hc19] at hF hS
          by_cases hc20 : w3.1 ≤ w6.1
          · rw [if_pos hc20] at hF hS
            obtain ⟨ho21, hS⟩ := hS
            obtain ⟨hs22, hS⟩ := hS
            rw [mbind_eq] at hF hS
            replace hx := Ext.then hM hx (x_Fr_push cs lim _ (x1.getD 0) 0 hx.ok hs22) (by decide) (by decide) (by decide)
            generalize F_Fr_push cs w6.2 (x1.getD 0) 0 = w23 at hF hS hx
            subst hF
            exact hx
          · rw [if_neg hc20] at hF hS
            obtain ⟨ho24, hS⟩ := hS
            obtain ⟨hs25, hS⟩ := hS
            rw [mbind_eq] at hF hS
            replace hx := Ext.then hM hx (x_Fr_push cs lim _ (x1.getD 0) 1 hx.ok hs25) (by decide) (by decide) (by decide)
            generalize F_Fr_push cs w6.2 (x1.getD 0) 1 = w26 at hF hS hx
            subst hF
            exact hx
        · rw [if_neg hc19] at hF hS
          by_cases hc27 : w6.1 = w3.1
          · rw [if_pos hc27] at hF hS
            obtain ⟨ho31, hS⟩ := hS
            obtain ⟨hs32, hS⟩ := hS
            rw [mbind_eq] at hF hS
            replace hx := Ext.then hM hx (x_Fr_push cs lim _ (x1.getD 0) 1 hx.ok hs32) (by decide) (by decide) (by decide)
            generalize F_Fr_push cs w6.2 (x1.getD 0) 1 = w33 at hF hS hx
            subst hF
            exact hx
          · rw [if_neg hc27] at hF hS
            obtain ⟨ho28, hS⟩ := hS
            obtain ⟨hs29, hS⟩ := hS
            rw [mbind_eq] at hF hS
            replace hx := Ext.then hM hx (x_Fr_push cs lim _ (x1.getD 0) 0 hx.ok hs29) (by decide) (by decide) (by decide)
            generalize F_Fr_push cs w6.2 (x1.getD 0) 0 = w30 at hF hS hx
            subst hF
            exact hx
theorem x_Ma_isFull (cs : Nat → ClassId) (lim : Nat × Nat) (M : gMem) (a0 : Nat) (x1 : Int32) (hM : MOk M) (hS : S_Ma_isFull cs lim M a0 x1) : Ext [(8, 4)] [] false M ((F_Ma_isFull cs M a0 x1).2) := by
  generalize hF : F_Ma_isFull cs M a0 x1 = Fv
  unfold F_Ma_isFull at hF
  unfold S_Ma_isFull at hS
  have hx : Ext [(8, 4)] [] false M M := Ext.rf hM
  obtain ⟨ho1, hS⟩ := hS
  by_cases hc2 : 1000 < ((cI M a0 7) + x1)
  · rw [if_pos hc2] at hF hS
    obtain ⟨ho3, hS⟩ := hS
    replace hx : Ext [(8, 4)] [] false M (cP 8 M a0 4 (.int 5)) := hx.putI 4 ho3 (by decide) (by decide)
    subst hF
    exact hx
  · rw [if_neg hc2] at hF hS
    subst hF
    exact hx
theorem x_Ma_close (cs : Nat → ClassId) (lim : Nat × Nat) (dE : Nat × Nat) (M : gMem) (a0 : Nat) (x1 : Option Nat) (x2 : Int32) (hM : MOk M) (hS : S_Ma_close cs lim dE M a0 x1 x2) : Ext [(8, 4), (8, 7), (9, 3), (10, 1), (10, 2), (11, 0), (11, 1), (11, 2), (11, 4), (11, 5), (13, 0), (13, 1), (13, 2)] [(10, 0), (11, 0), (13, 0)] true M (F_Ma_close cs dE M a0 x1 x2) := by
  generalize hF : F_Ma_close cs dE M a0 x1 x2 = Fv
  unfold F_Ma_close at hF
  unfold S_Ma_close at hS
  have hx : Ext [(8, 4), (8, 7), (9, 3), (10, 1), (10, 2), (11, 0), (11, 1), (11, 2), (11, 4), (11, 5), (13, 0), (13, 1), (13, 2)] [(10, 0), (11, 0), (13, 0)] true M M := Ext.rf hM
  obtain ⟨ho1, hS⟩ := hS
  obtain ⟨hs2, hS⟩ := hS
  rw [mbind_eq] at hF hS
  replace hx := Ext.then hM hx (x_Ma_isFull cs lim _ a0 1 hx.ok hs2) (by decide) (by decide) (by decide)
  generalize F_Ma_isFull cs M a0 1 = w3 at hF hS hx
  by_cases hc4 : w3.1 = 0
  · rw [if_pos hc4] at hF hS
    obtain ⟨ho5, hS⟩ := hS
    obtain ⟨ho6, hS⟩ := hS
    replace hx : Ext [(8, 4), (8, 7), (9, 3), (10, 1), (10, 2), (11, 0), (11, 1), (11, 2), (11, 4), (11, 5), (13, 0), (13, 1), (13, 2)] [(10, 0), (11, 0), (13, 0)] true M (cP 8 w3.2 a0 7 (.int ((cI w3.2 a0 7) + 1))) := hx.putI 7 ho6 (by decide) (by decide)
    obtain ⟨ho7, hS⟩ := hS
    obtain ⟨ho8, hS⟩ := hS
    obtain ⟨hs9, hS⟩ := hS
    rw [mbind_eq] at hF hS
    replace hx := Ext.then hM hx (x_St_takeThing cs lim dE _ ((cQ (cP 8 w3.2 a0 7 (.int ((cI w3.2 a0 7) + 1))) a0 1).getD 0)  hx.ok hs9) (by decide) (by decide) (by decide)
    generalize F_St_takeThing cs dE (cP 8 w3.2 a0 7 (.int ((cI w3.2 a0 7) + 1))) ((cQ (cP 8 w3.2 a0 7 (.int ((cI w3.2 a0 7) + 1))) a0 1).getD 0)  = w10 at hF hS hx
    obtain ⟨ho11, hS⟩ := hS
    obtain ⟨ho12, hS⟩ := hS
    obtain ⟨hs13, hS⟩ := hS
    rw [mbind_eq] at hF hS
    generalize hq_w14 : F_St_thingAt cs dE w10.2 ((cQ w10.2 a0 1).getD 0) w10.1 = w14 at hF hS
    by_cases hc15 : w14 = none
    · rw [if_pos hc15] at hF hS
      subst hF
      exact hx
    · rw [if_neg hc15] at hF hS
      obtain ⟨ho16, hS⟩ := hS
      obtain ⟨hs17, hS⟩ := hS
      rw [mbind_eq] at hF hS
      replace hx := Ext.then hM hx (x_Th_make cs lim _ (w14.getD 0) x2 hx.ok hs17) (by decide) (by decide) (by decide)
      generalize F_Th_make cs w10.2 (w14.getD 0) x2 = w18 at hF hS hx
      obtain ⟨ho19, hS⟩ := hS
      obtain ⟨hs20, hS⟩ := hS
      rw [mbind_eq] at hF hS
      replace hx := Ext.then hM hx (x_Fr_keepNames cs lim _ (x1.getD 0) w14 hx.ok hs20) (by decide) (by decide) (by decide)
      generalize F_Fr_keepNames cs w18 (x1.getD 0) w14 = w21 at hF hS hx
      obtain ⟨ho22, hS⟩ := hS
      obtain ⟨ho23, hS⟩ := hS
      obtain ⟨hs24, hS⟩ := hS
      rw [mbind_eq] at hF hS
      generalize hq_w25 : F_Co_field cs w21 ((cQ w21 a0 0).getD 0) x2 2 = w25 at hF hS
      obtain ⟨ho26, hS⟩ := hS
      obtain ⟨hs27, hS⟩ := hS
      rw [mbind_eq] at hF hS
      replace hx := Ext.then hM hx (x_Th_give cs lim _ (w14.getD 0) w25 w10.1 hx.ok hs27) (by decide) (by decide) (by decide)
      generalize F_Th_give cs w21 (w14.getD 0) w25 w10.1 = w28 at hF hS hx
      obtain ⟨ho29, hS⟩ := hS
      obtain ⟨hs30, hS⟩ := hS
      rw [mbind_eq] at hF hS
      replace hx := Ext.then hM hx (x_Fr_push cs lim _ (x1.getD 0) w10.1 hx.ok hs30) (by decide) (by decide) (by decide)
      generalize F_Fr_push cs w28 (x1.getD 0) w10.1 = w31 at hF hS hx
      obtain ⟨ho32, hS⟩ := hS
      obtain ⟨ho33, hS⟩ := hS
      obtain ⟨hs34, hS⟩ := hS
      rw [mbind_eq] at hF hS
      generalize hq_w35 : F_Co_field cs w31 ((cQ w31 a0 0).getD 0) x2 3 = w35 at hF hS
      obtain ⟨ho36, hS⟩ := hS
      replace hx : Ext [(8, 4), (8, 7), (9, 3), (10, 1), (10, 2), (11, 0), (11, 1), (11, 2), (11, 4), (11, 5), (13, 0), (13, 1), (13, 2)] [(10, 0), (11, 0), (13, 0)] true M (cP 10 w31 (x1.getD 0) 2 (.int w35)) := hx.putI 2 (cOq.at ho36).2 (by decide) (by decide)
      subst hF
      exact hx
  · rw [if_neg hc4] at hF hS
    subst hF
    exact hx
theorem x_Ma_isDeep (cs : Nat → ClassId) (lim : Nat × Nat) (M : gMem) (a0 : Nat) (x1 : Int32) (hM : MOk M) (hS : S_Ma_isDeep cs lim M a0 x1) : Ext [(8, 4)] [] false M ((F_Ma_isDeep cs M a0 x1).2) := by
  generalize hF : F_Ma_isDeep cs M a0 x1 = Fv
  unfold F_Ma_isDeep at hF
  unfold S_Ma_isDeep at hS
  have hx : Ext [(8, 4)] [] false M M := Ext.rf hM
  obtain ⟨ho1, hS⟩ := hS
  by_cases hc2 : 400 < ((cI M a0 8) + x1)
  · rw [if_pos hc2] at hF hS
    obtain ⟨ho3, hS⟩ := hS
    replace hx : Ext [(8, 4)] [] false M (cP 8 M a0 4 (.int 6)) := hx.putI 4 ho3 (by decide) (by decide)
    subst hF
    exact hx
  · rw [if_neg hc2] at hF hS
    subst hF
    exact hx
theorem x_Ma_enter (cs : Nat → ClassId) (lim : Nat × Nat) (dE : Nat × Nat) (M : gMem) (a0 : Nat) (x1 : Option Nat) (x2 : Option Nat) (x3 : Int32) (hM : MOk M) (hS : S_Ma_enter cs lim dE M a0 x1 x2 x3) : Ext [(8, 8), (8, 10), (9, 2), (9, 4), (10, 0), (10, 1), (10, 2), (10, 3), (10, 4), (13, 0), (13, 1), (13, 2)] [(10, 0), (13, 0)] true M (F_Ma_enter cs dE M a0 x1 x2 x3) := by
  generalize hF : F_Ma_enter cs dE M a0 x1 x2 x3 = Fv
  unfold F_Ma_enter at hF
  unfold S_Ma_enter at hS
  have hx : Ext [(8, 8), (8, 10), (9, 2), (9, 4), (10, 0), (10, 1), (10, 2), (10, 3), (10, 4), (13, 0), (13, 1), (13, 2)] [(10, 0), (13, 0)] true M M := Ext.rf hM
  obtain ⟨ho1, hS⟩ := hS
  obtain ⟨ho2, hS⟩ := hS
  obtain ⟨hs3, hS⟩ := hS
  rw [mbind_eq] at hF hS
  replace hx := Ext.then hM hx (x_St_takeFrame cs lim dE _ ((cQ M a0 1).getD 0)  hx.ok hs3) (by decide) (by decide) (by decide)
  generalize F_St_takeFrame cs dE M ((cQ M a0 1).getD 0)  = w4 at hF hS hx
  obtain ⟨ho5, hS⟩ := hS
  obtain ⟨hs6, hS⟩ := hS
  rw [mbind_eq] at hF hS
  replace hx := Ext.then hM hx (x_Fr_open cs lim _ (w4.1.getD 0) x2 x3 hx.ok hs6) (by decide) (by decide) (by decide)
  generalize F_Fr_open cs w4.2 (w4.1.getD 0) x2 x3 = w7 at hF hS hx
  obtain ⟨ho8, hS⟩ := hS
  replace hx : Ext [(8, 8), (8, 10), (9, 2), (9, 4), (10, 0), (10, 1), (10, 2), (10, 3), (10, 4), (13, 0), (13, 1), (13, 2)] [(10, 0), (13, 0)] true M (cP 10 w7 (w4.1.getD 0) 4 (va_rf x1)) := hx.putQ 4 (cOq.at ho8).2 (by decide) (by decide) (by decide)
  obtain ⟨ho9, hS⟩ := hS
  replace hx : Ext [(8, 8), (8, 10), (9, 2), (9, 4), (10, 0), (10, 1), (10, 2), (10, 3), (10, 4), (13, 0), (13, 1), (13, 2)] [(10, 0), (13, 0)] true M (cP 8 (cP 10 w7 (w4.1.getD 0) 4 (va_rf x1)) a0 10 (va_rf w4.1)) := hx.putQ 10 ho9 (by decide) (by decide) (by decide)
  obtain ⟨ho10, hS⟩ := hS
  obtain ⟨ho11, hS⟩ := hS
  replace hx : Ext [(8, 8), (8, 10), (9, 2), (9, 4), (10, 0), (10, 1), (10, 2), (10, 3), (10, 4), (13, 0), (13, 1), (13, 2)] [(10, 0), (13, 0)] true M (cP 8 (cP 8 (cP 10 w7 (w4.1.getD 0) 4 (va_rf x1)) a0 10 (va_rf w4.1)) a0 8 (.int ((cI (cP 8 (cP 10 w7 (w4.1.getD 0) 4 (va_rf x1)) a0 10 (va_rf w4.1)) a0 8) + 1))) := hx.putI 8 ho11 (by decide) (by decide)
  subst hF
  exact hx
theorem x_Ma_install (cs : Nat → ClassId) (lim : Nat × Nat) (dE : Nat × Nat) (M : gMem) (a0 : Nat) (x1 : Option Nat) (x2 : Int32) (hM : MOk M) (hS : S_Ma_install cs lim dE M a0 x1 x2) : Ext [(8, 4), (8, 7), (8, 8), (8, 10), (9, 2), (9, 3), (9, 4), (10, 0), (10, 1), (10, 2), (10, 3), (10, 4), (11, 0), (11, 1), (11, 2), (11, 4), (11, 5), (13, 0), (13, 1), (13, 2)] [(10, 0), (11, 0), (13, 0)] true M (F_Ma_install cs dE M a0 x1 x2) := by
  generalize hF : F_Ma_install cs dE M a0 x1 x2 = Fv
  unfold F_Ma_install at hF
  unfold S_Ma_install at hS
  have hx : Ext [(8, 4), (8, 7), (8, 8), (8, 10), (9, 2), (9, 3), (9, 4), (10, 0), (10, 1), (10, 2), (10, 3), (10, 4), (11, 0), (11, 1), (11, 2), (11, 4), (11, 5), (13, 0), (13, 1), (13, 2)] [(10, 0), (11, 0), (13, 0)] true M M := Ext.rf hM
  obtain ⟨ho1, hS⟩ := hS
  obtain ⟨hs2, hS⟩ := hS
  rw [mbind_eq] at hF hS
  replace hx := Ext.then hM hx (x_Ma_isFull cs lim _ a0 1 hx.ok hs2) (by decide) (by decide) (by decide)
  generalize F_Ma_isFull cs M a0 1 = w3 at hF hS hx
  by_cases hc4 : w3.1 = 0
  · rw [if_pos hc4] at hF hS
    obtain ⟨ho5, hS⟩ := hS
    obtain ⟨hs6, hS⟩ := hS
    rw [mbind_eq] at hF hS
    replace hx := Ext.then hM hx (x_Ma_isDeep cs lim _ a0 1 hx.ok hs6) (by decide) (by decide) (by decide)
    generalize F_Ma_isDeep cs w3.2 a0 1 = w7 at hF hS hx
    by_cases hc8 : w7.1 = 0
    · rw [if_pos hc8] at hF hS
      obtain ⟨ho9, hS⟩ := hS
      obtain ⟨ho10, hS⟩ := hS
      replace hx : Ext [(8, 4), (8, 7), (8, 8), (8, 10), (9, 2), (9, 3), (9, 4), (10, 0), (10, 1), (10, 2), (10, 3), (10, 4), (11, 0), (11, 1), (11, 2), (11, 4), (11, 5), (13, 0), (13, 1), (13, 2)] [(10, 0), (11, 0), (13, 0)] true M (cP 8 w7.2 a0 7 (.int ((cI w7.2 a0 7) + 1))) := hx.putI 7 ho10 (by decide) (by decide)
      obtain ⟨ho11, hS⟩ := hS
      obtain ⟨ho12, hS⟩ := hS
      obtain ⟨ho13, hS⟩ := hS
      obtain ⟨hs14, hS⟩ := hS
      rw [mbind_eq] at hF hS
      replace hx := Ext.then hM hx (x_St_takeThing cs lim dE _ ((cQ (cP 8 w7.2 a0 7 (.int ((cI w7.2 a0 7) + 1))) a0 1).getD 0)  hx.ok hs14) (by decide) (by decide) (by decide)
      generalize F_St_takeThing cs dE (cP 8 w7.2 a0 7 (.int ((cI w7.2 a0 7) + 1))) ((cQ (cP 8 w7.2 a0 7 (.int ((cI w7.2 a0 7) + 1))) a0 1).getD 0)  = w15 at hF hS hx
      obtain ⟨ho16, hS⟩ := hS
      obtain ⟨hs17, hS⟩ := hS
      rw [mbind_eq] at hF hS
      generalize hq_w18 : F_St_thingAt cs dE w15.2 ((cQ (cP 8 w7.2 a0 7 (.int ((cI w7.2 a0 7) + 1))) a0 1).getD 0) w15.1 = w18 at hF hS
      by_cases hc19 : w18 = none
      · rw [if_pos hc19] at hF hS
        subst hF
        exact hx
      · rw [if_neg hc19] at hF hS
        obtain ⟨ho20, hS⟩ := hS
        obtain ⟨hs21, hS⟩ := hS
        rw [mbind_eq] at hF hS
        replace hx := Ext.then hM hx (x_Th_make cs lim _ (w18.getD 0) x2 hx.ok hs21) (by decide) (by decide) (by decide)
        generalize F_Th_make cs w15.2 (w18.getD 0) x2 = w22 at hF hS hx
        obtain ⟨ho23, hS⟩ := hS
        obtain ⟨hs24, hS⟩ := hS
        rw [mbind_eq] at hF hS
        replace hx := Ext.then hM hx (x_Fr_keepNames cs lim _ (x1.getD 0) w18 hx.ok hs24) (by decide) (by decide) (by decide)
        generalize F_Fr_keepNames cs w22 (x1.getD 0) w18 = w25 at hF hS hx
        obtain ⟨ho26, hS⟩ := hS
        obtain ⟨ho27, hS⟩ := hS
        obtain ⟨hs28, hS⟩ := hS
        rw [mbind_eq] at hF hS
        generalize hq_w29 : F_Co_field cs w25 ((cQ w25 a0 0).getD 0) x2 1 = w29 at hF hS
        obtain ⟨ho30, hS⟩ := hS
        replace hx : Ext [(8, 4), (8, 7), (8, 8), (8, 10), (9, 2), (9, 3), (9, 4), (10, 0), (10, 1), (10, 2), (10, 3), (10, 4), (11, 0), (11, 1), (11, 2), (11, 4), (11, 5), (13, 0), (13, 1), (13, 2)] [(10, 0), (11, 0), (13, 0)] true M (cP 10 w25 (x1.getD 0) 2 (.int w29)) := hx.putI 2 (cOq.at ho30).2 (by decide) (by decide)
        obtain ⟨ho31, hS⟩ := hS
        obtain ⟨ho32, hS⟩ := hS
        obtain ⟨hs33, hS⟩ := hS
        rw [mbind_eq] at hF hS
        generalize hq_w34 : F_Co_field cs (cP 10 w25 (x1.getD 0) 2 (.int w29)) ((cQ (cP 10 w25 (x1.getD 0) 2 (.int w29)) a0 0).getD 0) x2 4 = w34 at hF hS
        obtain ⟨ho35, hS⟩ := hS
        obtain ⟨hs36, hS⟩ := hS
        rw [mbind_eq] at hF hS
        replace hx := Ext.then hM hx (x_Ma_enter cs lim dE _ a0 x1 w18 ((x2 + 1) + w34) hx.ok hs36) (by decide) (by decide) (by decide)
        generalize F_Ma_enter cs dE (cP 10 w25 (x1.getD 0) 2 (.int w29)) a0 x1 w18 ((x2 + 1) + w34) = w37 at hF hS hx
        obtain ⟨ho38, hS⟩ := hS
        obtain ⟨ho39, hS⟩ := hS
        replace hx : Ext [(8, 4), (8, 7), (8, 8), (8, 10), (9, 2), (9, 3), (9, 4), (10, 0), (10, 1), (10, 2), (10, 3), (10, 4), (11, 0), (11, 1), (11, 2), (11, 4), (11, 5), (13, 0), (13, 1), (13, 2)] [(10, 0), (11, 0), (13, 0)] true M (cP 10 w37 ((cQ w37 a0 10).getD 0) 3 (va_rf w18)) := hx.putQ 3 (cOq.at ho39).2 (by decide) (by decide) (by decide)
        subst hF
        exact hx
    · rw [if_neg hc8] at hF hS
      subst hF
      exact hx
  · rw [if_neg hc4] at hF hS
    subst hF
    exact hx
theorem x_Ma_endBody (cs : Nat → ClassId) (lim : Nat × Nat) (M : gMem) (a0 : Nat) (x1 : Option Nat) (hM : MOk M) (hS : S_Ma_endBody cs lim M a0 x1) : Ext [(10, 1), (10, 2), (10, 3)] [(10, 0)] false M (F_Ma_endBody cs M a0 x1) := by
  generalize hF : F_Ma_endBody cs M a0 x1 = Fv
  unfold F_Ma_endBody at hF
  unfold S_Ma_endBody at hS
  have hx : Ext [(10, 1), (10, 2), (10, 3)] [(10, 0)] false M M := Ext.rf hM
  obtain ⟨ho1, hS⟩ := hS
  by_cases hc2 : (cQ M (x1.getD 0) 3) = none
  · rw [if_pos hc2] at hF hS
    subst hF
    exact hx
  · rw [if_neg hc2] at hF hS
    obtain ⟨ho3, hS⟩ := hS
    obtain ⟨hs4, hS⟩ := hS
    rw [mbind_eq] at hF hS
    replace hx := Ext.then hM hx (x_Fr_pop cs lim _ (x1.getD 0)  hx.ok hs4) (by decide) (by decide) (by decide)
    generalize F_Fr_pop cs M (x1.getD 0)  = w5 at hF hS hx
    obtain ⟨ho6, hS⟩ := hS
    obtain ⟨ho7, hS⟩ := hS
    obtain ⟨ho8, hS⟩ := hS
    obtain ⟨hs9, hS⟩ := hS
    rw [mbind_eq] at hF hS
    generalize hq_w10 : F_Co_field cs w5.2 ((cQ w5.2 a0 0).getD 0) (cI w5.2 ((cQ M (x1.getD 0) 3).getD 0) 1) 2 = w10 at hF hS
    obtain ⟨ho11, hS⟩ := hS
    obtain ⟨hs12, hS⟩ := hS
    rw [mbind_eq] at hF hS
    replace hx := Ext.then hM hx (x_Fr_open cs lim _ (x1.getD 0) (cQ M (x1.getD 0) 3) w10 hx.ok hs12) (by decide) (by decide) (by decide)
    generalize F_Fr_open cs w5.2 (x1.getD 0) (cQ M (x1.getD 0) 3) w10 = w13 at hF hS hx
    obtain ⟨ho14, hS⟩ := hS
    obtain ⟨ho15, hS⟩ := hS
    obtain ⟨ho16, hS⟩ := hS
    obtain ⟨hs17, hS⟩ := hS
    rw [mbind_eq] at hF hS
    generalize hq_w18 : F_Co_field cs w13 ((cQ w13 a0 0).getD 0) (cI w13 ((cQ M (x1.getD 0) 3).getD 0) 1) 3 = w18 at hF hS
    obtain ⟨ho19, hS⟩ := hS
    obtain ⟨hs20, hS⟩ := hS
    rw [mbind_eq] at hF hS
    replace hx := Ext.then hM hx (x_Fr_give cs lim _ (x1.getD 0) w18 w5.1 hx.ok hs20) (by decide) (by decide) (by decide)
    generalize F_Fr_give cs w13 (x1.getD 0) w18 w5.1 = w21 at hF hS hx
    subst hF
    exact hx
theorem x_Ma_takesFuel (cs : Nat → ClassId) (lim : Nat × Nat) (M : gMem) (a0 : Nat) (x1 : Option Nat) (x2 : Int32) (hM : MOk M) (hS : S_Ma_takesFuel cs lim M a0 x1 x2) : Ext [(8, 6), (8, 12), (8, 13), (10, 2)] [] false M ((F_Ma_takesFuel cs M a0 x1 x2).2) := by
  generalize hF : F_Ma_takesFuel cs M a0 x1 x2 = Fv
  unfold F_Ma_takesFuel at hF
  unfold S_Ma_takesFuel at hS
  have hx : Ext [(8, 6), (8, 12), (8, 13), (10, 2)] [] false M M := Ext.rf hM
  obtain ⟨ho1, hS⟩ := hS
  obtain ⟨ho2, hS⟩ := hS
  by_cases hc3 : (cI M a0 12) < (cI M a0 11)
  · rw [if_pos hc3] at hF hS
    obtain ⟨ho4, hS⟩ := hS
    obtain ⟨ho5, hS⟩ := hS
    replace hx : Ext [(8, 6), (8, 12), (8, 13), (10, 2)] [] false M (cP 8 M a0 12 (.int ((cI M a0 12) + 1))) := hx.putI 12 ho5 (by decide) (by decide)
    obtain ⟨ho6, hS⟩ := hS
    obtain ⟨ho7, hS⟩ := hS
    replace hx : Ext [(8, 6), (8, 12), (8, 13), (10, 2)] [] false M (cP 8 (cP 8 M a0 12 (.int ((cI M a0 12) + 1))) a0 6 (.int ((cI (cP 8 M a0 12 (.int ((cI M a0 12) + 1))) a0 6) + 1))) := hx.putI 6 ho7 (by decide) (by decide)
    subst hF
    exact hx
  · rw [if_neg hc3] at hF hS
    obtain ⟨ho8, hS⟩ := hS
    replace hx : Ext [(8, 6), (8, 12), (8, 13), (10, 2)] [] false M (cP 8 M a0 13 (.int 1)) := hx.putI 13 ho8 (by decide) (by decide)
    obtain ⟨ho9, hS⟩ := hS
    replace hx : Ext [(8, 6), (8, 12), (8, 13), (10, 2)] [] false M (cP 10 (cP 8 M a0 13 (.int 1)) (x1.getD 0) 2 (.int x2)) := hx.putI 2 (cOq.at ho9).2 (by decide) (by decide)
    subst hF
    exact hx
theorem x_Ma_resume (cs : Nat → ClassId) (lim : Nat × Nat) (M : gMem) (a0 : Nat) (x1 : Option Nat) (x2 : Option Nat) (x3 : Int32) (hM : MOk M) (hS : S_Ma_resume cs lim M a0 x1 x2 x3) : Ext [(8, 4), (8, 8), (8, 10), (10, 1), (10, 4), (11, 3)] [(10, 0)] false M (F_Ma_resume cs M a0 x1 x2 x3) := by
  generalize hF : F_Ma_resume cs M a0 x1 x2 x3 = Fv
  unfold F_Ma_resume at hF
  unfold S_Ma_resume at hS
  have hx : Ext [(8, 4), (8, 8), (8, 10), (10, 1), (10, 4), (11, 3)] [(10, 0)] false M M := Ext.rf hM
  obtain ⟨ho1, hS⟩ := hS
  by_cases hc2 : (cI M (x2.getD 0) 3) = 0
  · rw [if_pos hc2] at hF hS
    obtain ⟨ho3, hS⟩ := hS
    obtain ⟨ho4, hS⟩ := hS
    obtain ⟨hs5, hS⟩ := hS
    rw [mbind_eq] at hF hS
    replace hx := Ext.then hM hx (x_Ma_isDeep cs lim _ a0 (cI M (x2.getD 0) 6) hx.ok hs5) (by decide) (by decide) (by decide)
    generalize F_Ma_isDeep cs M a0 (cI M (x2.getD 0) 6) = w6 at hF hS hx
    by_cases hc7 : w6.1 = 0
    · rw [if_pos hc7] at hF hS
      obtain ⟨ho8, hS⟩ := hS
      by_cases hc9 : (cQ w6.2 (x2.getD 0) 5) = none
      · rw [if_pos hc9] at hF hS
        subst hF
        exact hx
      · rw [if_neg hc9] at hF hS
        obtain ⟨ho10, hS⟩ := hS
        by_cases hc11 : (cQ w6.2 (x2.getD 0) 4) = none
        · rw [if_pos hc11] at hF hS
          subst hF
          exact hx
        · rw [if_neg hc11] at hF hS
          obtain ⟨ho12, hS⟩ := hS
          replace hx : Ext [(8, 4), (8, 8), (8, 10), (10, 1), (10, 4), (11, 3)] [(10, 0)] false M (cP 11 w6.2 (x2.getD 0) 3 (.int 1)) := hx.putI 3 (cOq.at ho12).2 (by decide) (by decide)
          obtain ⟨ho13, hS⟩ := hS
          obtain ⟨ho14, hS⟩ := hS
          obtain ⟨ho15, hS⟩ := hS
          replace hx : Ext [(8, 4), (8, 8), (8, 10), (10, 1), (10, 4), (11, 3)] [(10, 0)] false M (cP 8 (cP 11 w6.2 (x2.getD 0) 3 (.int 1)) a0 8 (.int ((cI (cP 11 w6.2 (x2.getD 0) 3 (.int 1)) a0 8) + (cI (cP 11 w6.2 (x2.getD 0) 3 (.int 1)) (x2.getD 0) 6)))) := hx.putI 8 ho15 (by decide) (by decide)
          obtain ⟨ho16, hS⟩ := hS
          obtain ⟨ho17, hS⟩ := hS
          replace hx : Ext [(8, 4), (8, 8), (8, 10), (10, 1), (10, 4), (11, 3)] [(10, 0)] false M (cP 10 (cP 8 (cP 11 w6.2 (x2.getD 0) 3 (.int 1)) a0 8 (.int ((cI (cP 11 w6.2 (x2.getD 0) 3 (.int 1)) a0 8) + (cI (cP 11 w6.2 (x2.getD 0) 3 (.int 1)) (x2.getD 0) 6)))) ((cQ (cP 8 (cP 11 w6.2 (x2.getD 0) 3 (.int 1)) a0 8 (.int ((cI (cP 11 w6.2 (x2.getD 0) 3 (.int 1)) a0 8) + (cI (cP 11 w6.2 (x2.getD 0) 3 (.int 1)) (x2.getD 0) 6)))) (x2.getD 0) 5).getD 0) 4 (va_rf x1)) := hx.putQ 4 (cOq.at ho17).2 (by decide) (by decide) (by decide)
          obtain ⟨ho18, hS⟩ := hS
          obtain ⟨ho19, hS⟩ := hS
          replace hx : Ext [(8, 4), (8, 8), (8, 10), (10, 1), (10, 4), (11, 3)] [(10, 0)] false M (cP 8 (cP 10 (cP 8 (cP 11 w6.2 (x2.getD 0) 3 (.int 1)) a0 8 (.int ((cI (cP 11 w6.2 (x2.getD 0) 3 (.int 1)) a0 8) + (cI (cP 11 w6.2 (x2.getD 0) 3 (.int 1)) (x2.getD 0) 6)))) ((cQ (cP 8 (cP 11 w6.2 (x2.getD 0) 3 (.int 1)) a0 8 (.int ((cI (cP 11 w6.2 (x2.getD 0) 3 (.int 1)) a0 8) + (cI (cP 11 w6.2 (x2.getD 0) 3 (.int 1)) (x2.getD 0) 6)))) (x2.getD 0) 5).getD 0) 4 (va_rf x1)) a0 10 (va_rf (cQ (cP 10 (cP 8 (cP 11 w6.2 (x2.getD 0) 3 (.int 1)) a0 8 (.int ((cI (cP 11 w6.2 (x2.getD 0) 3 (.int 1)) a0 8) + (cI (cP 11 w6.2 (x2.getD 0) 3 (.int 1)) (x2.getD 0) 6)))) ((cQ (cP 8 (cP 11 w6.2 (x2.getD 0) 3 (.int 1)) a0 8 (.int ((cI (cP 11 w6.2 (x2.getD 0) 3 (.int 1)) a0 8) + (cI (cP 11 w6.2 (x2.getD 0) 3 (.int 1)) (x2.getD 0) 6)))) (x2.getD 0) 5).getD 0) 4 (va_rf x1)) (x2.getD 0) 4))) := hx.putQ 10 ho19 (by decide) (by decide) (by decide)
          obtain ⟨ho20, hS⟩ := hS
          obtain ⟨ho21, hS⟩ := hS
          obtain ⟨hs22, hS⟩ := hS
          rw [mbind_eq] at hF hS
          replace hx := Ext.then hM hx (x_Fr_push cs lim _ ((cQ (cP 8 (cP 10 (cP 8 (cP 11 w6.2 (x2.getD 0) 3 (.int 1)) a0 8 (.int ((cI (cP 11 w6.2 (x2.getD 0) 3 (.int 1)) a0 8) + (cI (cP 11 w6.2 (x2.getD 0) 3 (.int 1)) (x2.getD 0) 6)))) ((cQ (cP 8 (cP 11 w6.2 (x2.getD 0) 3 (.int 1)) a0 8 (.int ((cI (cP 11 w6.2 (x2.getD 0) 3 (.int 1)) a0 8) + (cI (cP 11 w6.2 (x2.getD 0) 3 (.int 1)) (x2.getD 0) 6)))) (x2.getD 0) 5).getD 0) 4 (va_rf x1)) a0 10 (va_rf (cQ (cP 10 (cP 8 (cP 11 w6.2 (x2.getD 0) 3 (.int 1)) a0 8 (.int ((cI (cP 11 w6.2 (x2.getD 0) 3 (.int 1)) a0 8) + (cI (cP 11 w6.2 (x2.getD 0) 3 (.int 1)) (x2.getD 0) 6)))) ((cQ (cP 8 (cP 11 w6.2 (x2.getD 0) 3 (.int 1)) a0 8 (.int ((cI (cP 11 w6.2 (x2.getD 0) 3 (.int 1)) a0 8) + (cI (cP 11 w6.2 (x2.getD 0) 3 (.int 1)) (x2.getD 0) 6)))) (x2.getD 0) 5).getD 0) 4 (va_rf x1)) (x2.getD 0) 4))) a0 10).getD 0) x3 hx.ok hs22) (by decide) (by decide) (by decide)
          generalize F_Fr_push cs (cP 8 (cP 10 (cP 8 (cP 11 w6.2 (x2.getD 0) 3 (.int 1)) a0 8 (.int ((cI (cP 11 w6.2 (x2.getD 0) 3 (.int 1)) a0 8) + (cI (cP 11 w6.2 (x2.getD 0) 3 (.int 1)) (x2.getD 0) 6)))) ((cQ (cP 8 (cP 11 w6.2 (x2.getD 0) 3 (.int 1)) a0 8 (.int ((cI (cP 11 w6.2 (x2.getD 0) 3 (.int 1)) a0 8) + (cI (cP 11 w6.2 (x2.getD 0) 3 (.int 1)) (x2.getD 0) 6)))) (x2.getD 0) 5).getD 0) 4 (va_rf x1)) a0 10 (va_rf (cQ (cP 10 (cP 8 (cP 11 w6.2 (x2.getD 0) 3 (.int 1)) a0 8 (.int ((cI (cP 11 w6.2 (x2.getD 0) 3 (.int 1)) a0 8) + (cI (cP 11 w6.2 (x2.getD 0) 3 (.int 1)) (x2.getD 0) 6)))) ((cQ (cP 8 (cP 11 w6.2 (x2.getD 0) 3 (.int 1)) a0 8 (.int ((cI (cP 11 w6.2 (x2.getD 0) 3 (.int 1)) a0 8) + (cI (cP 11 w6.2 (x2.getD 0) 3 (.int 1)) (x2.getD 0) 6)))) (x2.getD 0) 5).getD 0) 4 (va_rf x1)) (x2.getD 0) 4))) ((cQ (cP 8 (cP 10 (cP 8 (cP 11 w6.2 (x2.getD 0) 3 (.int 1)) a0 8 (.int ((cI (cP 11 w6.2 (x2.getD 0) 3 (.int 1)) a0 8) + (cI (cP 11 w6.2 (x2.getD 0) 3 (.int 1)) (x2.getD 0) 6)))) ((cQ (cP 8 (cP 11 w6.2 (x2.getD 0) 3 (.int 1)) a0 8 (.int ((cI (cP 11 w6.2 (x2.getD 0) 3 (.int 1)) a0 8) + (cI (cP 11 w6.2 (x2.getD 0) 3 (.int 1)) (x2.getD 0) 6)))) (x2.getD 0) 5).getD 0) 4 (va_rf x1)) a0 10 (va_rf (cQ (cP 10 (cP 8 (cP 11 w6.2 (x2.getD 0) 3 (.int 1)) a0 8 (.int ((cI (cP 11 w6.2 (x2.getD 0) 3 (.int 1)) a0 8) + (cI (cP 11 w6.2 (x2.getD 0) 3 (.int 1)) (x2.getD 0) 6)))) ((cQ (cP 8 (cP 11 w6.2 (x2.getD 0) 3 (.int 1)) a0 8 (.int ((cI (cP 11 w6.2 (x2.getD 0) 3 (.int 1)) a0 8) + (cI (cP 11 w6.2 (x2.getD 0) 3 (.int 1)) (x2.getD 0) 6)))) (x2.getD 0) 5).getD 0) 4 (va_rf x1)) (x2.getD 0) 4))) a0 10).getD 0) x3 = w23 at hF hS hx
          subst hF
          exact hx
    · rw [if_neg hc7] at hF hS
      subst hF
      exact hx
  · rw [if_neg hc2] at hF hS
    obtain ⟨ho24, hS⟩ := hS
    replace hx : Ext [(8, 4), (8, 8), (8, 10), (10, 1), (10, 4), (11, 3)] [(10, 0)] false M (cP 8 M a0 4 (.int 3)) := hx.putI 4 ho24 (by decide) (by decide)
    subst hF
    exact hx
theorem x_Ma_apply (cs : Nat → ClassId) (lim : Nat × Nat) (dE : Nat × Nat) (M : gMem) (a0 : Nat) (x1 : Option Nat) (x2 : Int32) (hM : MOk M) (hS : S_Ma_apply cs lim dE M a0 x1 x2) : Ext [(8, 4), (8, 6), (8, 8), (8, 10), (8, 12), (8, 13), (9, 2), (9, 4), (10, 0), (10, 1), (10, 2), (10, 3), (10, 4), (11, 3), (13, 0), (13, 1), (13, 2)] [(10, 0), (13, 0)] true M (F_Ma_apply cs dE M a0 x1 x2) := by
  generalize hF : F_Ma_apply cs dE M a0 x1 x2 = Fv
  unfold F_Ma_apply at hF
  unfold S_Ma_apply at hS
  have hx : Ext [(8, 4), (8, 6), (8, 8), (8, 10), (8, 12), (8, 13), (9, 2), (9, 4), (10, 0), (10, 1), (10, 2), (10, 3), (10, 4), (11, 3), (13, 0), (13, 1), (13, 2)] [(10, 0), (13, 0)] true M M := Ext.rf hM
  obtain ⟨ho1, hS⟩ := hS
  obtain ⟨hs2, hS⟩ := hS
  rw [mbind_eq] at hF hS
  replace hx := Ext.then hM hx (x_Ma_takesFuel cs lim _ a0 x1 x2 hx.ok hs2) (by decide) (by decide) (by decide)
  generalize F_Ma_takesFuel cs M a0 x1 x2 = w3 at hF hS hx
  by_cases hc4 : w3.1 = 0
  · rw [if_pos hc4] at hF hS
    subst hF
    exact hx
  · rw [if_neg hc4] at hF hS
    obtain ⟨ho5, hS⟩ := hS
    obtain ⟨hs6, hS⟩ := hS
    rw [mbind_eq] at hF hS
    replace hx := Ext.then hM hx (x_Fr_pop cs lim _ (x1.getD 0)  hx.ok hs6) (by decide) (by decide) (by decide)
    generalize F_Fr_pop cs w3.2 (x1.getD 0)  = w7 at hF hS hx
    obtain ⟨ho8, hS⟩ := hS
    obtain ⟨ho9, hS⟩ := hS
    obtain ⟨hs10, hS⟩ := hS
    rw [mbind_eq] at hF hS
    replace hx := Ext.then hM hx (x_Fr_pop cs lim _ (x1.getD 0)  hx.ok hs10) (by decide) (by decide) (by decide)
    generalize F_Fr_pop cs w7.2 (x1.getD 0)  = w11 at hF hS hx
    obtain ⟨ho12, hS⟩ := hS
    obtain ⟨hs13, hS⟩ := hS
    rw [mbind_eq] at hF hS
    generalize hq_w14 : F_St_thingAt cs dE w11.2 ((cQ w7.2 a0 1).getD 0) w11.1 = w14 at hF hS
    by_cases hc15 : w14 = none
    · rw [if_pos hc15] at hF hS
      subst hF
      exact hx
    · rw [if_neg hc15] at hF hS
      obtain ⟨ho16, hS⟩ := hS
      by_cases hc17 : (cI w11.2 (w14.getD 0) 2) = 0
      · rw [if_pos hc17] at hF hS
        obtain ⟨ho18, hS⟩ := hS
        obtain ⟨hs19, hS⟩ := hS
        rw [mbind_eq] at hF hS
        replace hx := Ext.then hM hx (x_Ma_isDeep cs lim _ a0 1 hx.ok hs19) (by decide) (by decide) (by decide)
        generalize F_Ma_isDeep cs w11.2 a0 1 = w20 at hF hS hx
        by_cases hc21 : w20.1 = 0
        · rw [if_pos hc21] at hF hS
          obtain ⟨ho22, hS⟩ := hS
          obtain ⟨ho23, hS⟩ := hS
          obtain ⟨hs24, hS⟩ := hS
          rw [mbind_eq] at hF hS
          replace hx := Ext.then hM hx (x_Ma_enter cs lim dE _ a0 x1 w14 ((cI w20.2 (w14.getD 0) 1) + 1) hx.ok hs24) (by decide) (by decide) (by decide)
          generalize F_Ma_enter cs dE w20.2 a0 x1 w14 ((cI w20.2 (w14.getD 0) 1) + 1) = w25 at hF hS hx
          obtain ⟨ho26, hS⟩ := hS
          obtain ⟨ho27, hS⟩ := hS
          obtain ⟨ho28, hS⟩ := hS
          obtain ⟨ho29, hS⟩ := hS
          obtain ⟨hs30, hS⟩ := hS
          rw [mbind_eq] at hF hS
          generalize hq_w31 : F_Co_field cs w25 ((cQ w25 a0 0).getD 0) (cI w25 (w14.getD 0) 1) 1 = w31 at hF hS
          obtain ⟨ho32, hS⟩ := hS
          obtain ⟨hs33, hS⟩ := hS
          rw [mbind_eq] at hF hS
          replace hx := Ext.then hM hx (x_Fr_give cs lim _ ((cQ w25 a0 10).getD 0) w31 w7.1 hx.ok hs33) (by decide) (by decide) (by decide)
          generalize F_Fr_give cs w25 ((cQ w25 a0 10).getD 0) w31 w7.1 = w34 at hF hS hx
          subst hF
          exact hx
        · rw [if_neg hc21] at hF hS
          subst hF
          exact hx
      · rw [if_neg hc17] at hF hS
        obtain ⟨ho35, hS⟩ := hS
        obtain ⟨hs36, hS⟩ := hS
        rw [mbind_eq] at hF hS
        replace hx := Ext.then hM hx (x_Ma_resume cs lim _ a0 x1 w14 w7.1 hx.ok hs36) (by decide) (by decide) (by decide)
        generalize F_Ma_resume cs w11.2 a0 x1 w14 w7.1 = w37 at hF hS hx
        subst hF
        exact hx
theorem x_Ma_holdFrames (cs : Nat → ClassId) (lim : Nat × Nat) (dE : Nat × Nat) (M : gMem) (a0 : Nat) (x1 : Option Nat) (x2 : Int32) (hM : MOk M) (hS : S_Ma_holdFrames cs lim dE M a0 x1 x2) : Ext [(8, 7), (8, 8), (9, 3), (10, 4), (11, 0), (11, 2), (11, 3), (11, 4), (11, 5), (11, 6), (13, 0), (13, 1), (13, 2)] [(13, 0)] true M ((F_Ma_holdFrames cs dE M a0 x1 x2).2) := by
  generalize hF : F_Ma_holdFrames cs dE M a0 x1 x2 = Fv
  unfold F_Ma_holdFrames at hF
  unfold S_Ma_holdFrames at hS
  have hx : Ext [(8, 7), (8, 8), (9, 3), (10, 4), (11, 0), (11, 2), (11, 3), (11, 4), (11, 5), (11, 6), (13, 0), (13, 1), (13, 2)] [(13, 0)] true M M := Ext.rf hM
  obtain ⟨ho1, hS⟩ := hS
  obtain ⟨ho2, hS⟩ := hS
  replace hx : Ext [(8, 7), (8, 8), (9, 3), (10, 4), (11, 0), (11, 2), (11, 3), (11, 4), (11, 5), (11, 6), (13, 0), (13, 1), (13, 2)] [(13, 0)] true M (cP 8 M a0 7 (.int ((cI M a0 7) + (1 + x2)))) := hx.putI 7 ho2 (by decide) (by decide)
  obtain ⟨ho3, hS⟩ := hS
  obtain ⟨ho4, hS⟩ := hS
  replace hx : Ext [(8, 7), (8, 8), (9, 3), (10, 4), (11, 0), (11, 2), (11, 3), (11, 4), (11, 5), (11, 6), (13, 0), (13, 1), (13, 2)] [(13, 0)] true M (cP 8 (cP 8 M a0 7 (.int ((cI M a0 7) + (1 + x2)))) a0 8 (.int ((cI (cP 8 M a0 7 (.int ((cI M a0 7) + (1 + x2)))) a0 8) - x2))) := hx.putI 8 ho4 (by decide) (by decide)
  obtain ⟨ho5, hS⟩ := hS
  obtain ⟨ho6, hS⟩ := hS
  obtain ⟨hs7, hS⟩ := hS
  rw [mbind_eq] at hF hS
  replace hx := Ext.then hM hx (x_St_takeThing cs lim dE _ ((cQ (cP 8 (cP 8 M a0 7 (.int ((cI M a0 7) + (1 + x2)))) a0 8 (.int ((cI (cP 8 M a0 7 (.int ((cI M a0 7) + (1 + x2)))) a0 8) - x2))) a0 1).getD 0)  hx.ok hs7) (by decide) (by decide) (by decide)
  generalize F_St_takeThing cs dE (cP 8 (cP 8 M a0 7 (.int ((cI M a0 7) + (1 + x2)))) a0 8 (.int ((cI (cP 8 M a0 7 (.int ((cI M a0 7) + (1 + x2)))) a0 8) - x2))) ((cQ (cP 8 (cP 8 M a0 7 (.int ((cI M a0 7) + (1 + x2)))) a0 8 (.int ((cI (cP 8 M a0 7 (.int ((cI M a0 7) + (1 + x2)))) a0 8) - x2))) a0 1).getD 0)  = w8 at hF hS hx
  obtain ⟨ho9, hS⟩ := hS
  obtain ⟨ho10, hS⟩ := hS
  obtain ⟨hs11, hS⟩ := hS
  rw [mbind_eq] at hF hS
  generalize hq_w12 : F_St_thingAt cs dE w8.2 ((cQ w8.2 a0 1).getD 0) w8.1 = w12 at hF hS
  by_cases hc13 : w12 = none
  · rw [if_pos hc13] at hF hS
    obtain ⟨ho14, hS⟩ := hS
    replace hx : Ext [(8, 7), (8, 8), (9, 3), (10, 4), (11, 0), (11, 2), (11, 3), (11, 4), (11, 5), (11, 6), (13, 0), (13, 1), (13, 2)] [(13, 0)] true M (cP 10 w8.2 (x1.getD 0) 4 (va_rf (none : Option Nat))) := hx.putQ 4 (cOq.at ho14).2 (by decide) (by decide) (by decide)
    subst hF
    exact hx
  · rw [if_neg hc13] at hF hS
    obtain ⟨ho15, hS⟩ := hS
    obtain ⟨ho16, hS⟩ := hS
    obtain ⟨hs17, hS⟩ := hS
    rw [mbind_eq] at hF hS
    replace hx := Ext.then hM hx (x_Th_hold cs lim _ (w12.getD 0) (cQ w8.2 a0 10) x1 x2 hx.ok hs17) (by decide) (by decide) (by decide)
    generalize F_Th_hold cs w8.2 (w12.getD 0) (cQ w8.2 a0 10) x1 x2 = w18 at hF hS hx
    obtain ⟨ho19, hS⟩ := hS
    replace hx : Ext [(8, 7), (8, 8), (9, 3), (10, 4), (11, 0), (11, 2), (11, 3), (11, 4), (11, 5), (11, 6), (13, 0), (13, 1), (13, 2)] [(13, 0)] true M (cP 10 w18 (x1.getD 0) 4 (va_rf (none : Option Nat))) := hx.putQ 4 (cOq.at ho19).2 (by decide) (by decide) (by decide)
    subst hF
    exact hx
theorem xw_Ma_raise_37 (cs : Nat → ClassId) (lim : Nat × Nat) (dE : Nat × Nat) : ∀ (n : Nat) (M : gMem) (a0 : Nat) (x1 : Option Nat) (x2 : Int32) (x3 : Int32) (x4 : Int32) (x5 : Option Nat) (x6 : Int32) (x7 : Int32) (Fv : gMem) (hM : MOk M) (hS : S_Ma_raise_37 cs lim dE n M a0 x1 x2 x3 x4 x5 x6 x7) (hF : F_Ma_raise_37 cs dE n M a0 x1 x2 x3 x4 x5 x6 x7 = Fv), Ext [(8, 4), (8, 6), (8, 7), (8, 8), (8, 9), (8, 10), (8, 12), (8, 13), (9, 2), (9, 3), (9, 4), (10, 0), (10, 1), (10, 2), (10, 3), (10, 4), (11, 0), (11, 2), (11, 3), (11, 4), (11, 5), (11, 6), (13, 0), (13, 1), (13, 2)] [(10, 0), (13, 0)] true M Fv := by
  intro n
  induction n with
  | zero =>
    intro M a0 x1 x2 x3 x4 x5 x6 x7 Fv hM hS hF
    exact hS.elim
  | succ n ih =>
    intro M a0 x1 x2 x3 x4 x5 x6 x7 Fv hM hS hF
    simp only [S_Ma_raise_37] at hS
    simp only [F_Ma_raise_37] at hF
    have hx : Ext [(8, 4), (8, 6), (8, 7), (8, 8), (8, 9), (8, 10), (8, 12), (8, 13), (9, 2), (9, 3), (9, 4), (10, 0), (10, 1), (10, 2), (10, 3), (10, 4), (11, 0), (11, 2), (11, 3), (11, 4), (11, 5), (11, 6), (13, 0), (13, 1), (13, 2)] [(10, 0), (13, 0)] true M M := Ext.rf hM
    by_cases hc1 : x6 = (-1)
    · rw [if_pos hc1] at hF hS
      obtain ⟨ho37, hS⟩ := hS
      by_cases hc38 : (cQ M (x5.getD 0) 4) = none
      · rw [if_pos hc38] at hF hS
        by_cases hc39 : x6 = (-1)
        · rw [if_pos hc39] at hF hS
          obtain ⟨ho72, hS⟩ := hS
          replace hx : Ext [(8, 4), (8, 6), (8, 7), (8, 8), (8, 9), (8, 10), (8, 12), (8, 13), (9, 2), (9, 3), (9, 4), (10, 0), (10, 1), (10, 2), (10, 3), (10, 4), (11, 0), (11, 2), (11, 3), (11, 4), (11, 5), (11, 6), (13, 0), (13, 1), (13, 2)] [(10, 0), (13, 0)] true M (cP 8 M a0 9 (.int x3)) := hx.putI 9 ho72 (by decide) (by decide)
          obtain ⟨ho73, hS⟩ := hS
          replace hx : Ext [(8, 4), (8, 6), (8, 7), (8, 8), (8, 9), (8, 10), (8, 12), (8, 13), (9, 2), (9, 3), (9, 4), (10, 0), (10, 1), (10, 2), (10, 3), (10, 4), (11, 0), (11, 2), (11, 3), (11, 4), (11, 5), (11, 6), (13, 0), (13, 1), (13, 2)] [(10, 0), (13, 0)] true M (cP 8 (cP 8 M a0 9 (.int x3)) a0 4 (.int 4)) := hx.putI 4 ho73 (by decide) (by decide)
          subst hF
          exact hx
        · rw [if_neg hc39] at hF hS
          obtain ⟨ho40, hS⟩ := hS
          obtain ⟨hs41, hS⟩ := hS
          rw [mbind_eq] at hF hS
          replace hx := Ext.then hM hx (x_Ma_isFull cs lim _ a0 (1 + x7) hx.ok hs41) (by decide) (by decide) (by decide)
          generalize F_Ma_isFull cs M a0 (1 + x7) = w42 at hF hS hx
          by_cases hc43 : w42.1 = 0
          · rw [if_pos hc43] at hF hS
            obtain ⟨ho44, hS⟩ := hS
            obtain ⟨ho45, hS⟩ := hS
            obtain ⟨hs46, hS⟩ := hS
            rw [mbind_eq] at hF hS
            replace hx := Ext.then hM hx (x_Ma_holdFrames cs lim dE _ a0 x5 x7 hx.ok hs46) (by decide) (by decide) (by decide)
            generalize F_Ma_holdFrames cs dE w42.2 a0 x5 x7 = w47 at hF hS hx
            obtain ⟨ho48, hS⟩ := hS
            obtain ⟨ho49, hS⟩ := hS
            obtain ⟨ho50, hS⟩ := hS
            obtain ⟨hs51, hS⟩ := hS
            rw [mbind_eq] at hF hS
            generalize hq_w52 : F_Co_field cs w47.2 ((cQ w47.2 a0 0).getD 0) x6 2 = w52 at hF hS
            obtain ⟨ho53, hS⟩ := hS
            obtain ⟨hs54, hS⟩ := hS
            rw [mbind_eq] at hF hS
            replace hx := Ext.then hM hx (x_Ma_enter cs lim dE _ a0 (cQ w42.2 (x5.getD 0) 4) (cQ w47.2 (x5.getD 0) 3) w52 hx.ok hs54) (by decide) (by decide) (by decide)
            generalize F_Ma_enter cs dE w47.2 a0 (cQ w42.2 (x5.getD 0) 4) (cQ w47.2 (x5.getD 0) 3) w52 = w55 at hF hS hx
            obtain ⟨ho56, hS⟩ := hS
            obtain ⟨ho57, hS⟩ := hS
            obtain ⟨ho58, hS⟩ := hS
            obtain ⟨hs59, hS⟩ := hS
            rw [mbind_eq] at hF hS
            generalize hq_w60 : F_Co_field cs w55 ((cQ w55 a0 0).getD 0) x6 3 = w60 at hF hS
            obtain ⟨ho61, hS⟩ := hS
            obtain ⟨hs62, hS⟩ := hS
            rw [mbind_eq] at hF hS
            replace hx := Ext.then hM hx (x_Fr_give cs lim _ ((cQ w55 a0 10).getD 0) w60 x4 hx.ok hs62) (by decide) (by decide) (by decide)
            generalize F_Fr_give cs w55 ((cQ w55 a0 10).getD 0) w60 x4 = w63 at hF hS hx
            obtain ⟨ho64, hS⟩ := hS
            obtain ⟨ho65, hS⟩ := hS
            obtain ⟨ho66, hS⟩ := hS
            obtain ⟨hs67, hS⟩ := hS
            rw [mbind_eq] at hF hS
            generalize hq_w68 : F_Co_field cs w63 ((cQ w63 a0 0).getD 0) x6 4 = w68 at hF hS
            obtain ⟨ho69, hS⟩ := hS
            obtain ⟨hs70, hS⟩ := hS
            rw [mbind_eq] at hF hS
            replace hx := Ext.then hM hx (x_Fr_give cs lim _ ((cQ w63 a0 10).getD 0) w68 w47.1 hx.ok hs70) (by decide) (by decide) (by decide)
            generalize F_Fr_give cs w63 ((cQ w63 a0 10).getD 0) w68 w47.1 = w71 at hF hS hx
            subst hF
            exact hx
          · rw [if_neg hc43] at hF hS
            subst hF
            exact hx
      · rw [if_neg hc38] at hF hS
        by_cases hc74 : 400 < x7
        · rw [if_pos hc74] at hF hS
          by_cases hc75 : x6 = (-1)
          · rw [if_pos hc75] at hF hS
            obtain ⟨ho108, hS⟩ := hS
            replace hx : Ext [(8, 4), (8, 6), (8, 7), (8, 8), (8, 9), (8, 10), (8, 12), (8, 13), (9, 2), (9, 3), (9, 4), (10, 0), (10, 1), (10, 2), (10, 3), (10, 4), (11, 0), (11, 2), (11, 3), (11, 4), (11, 5), (11, 6), (13, 0), (13, 1), (13, 2)] [(10, 0), (13, 0)] true M (cP 8 M a0 9 (.int x3)) := hx.putI 9 ho108 (by decide) (by decide)
            obtain ⟨ho109, hS⟩ := hS
            replace hx : Ext [(8, 4), (8, 6), (8, 7), (8, 8), (8, 9), (8, 10), (8, 12), (8, 13), (9, 2), (9, 3), (9, 4), (10, 0), (10, 1), (10, 2), (10, 3), (10, 4), (11, 0), (11, 2), (11, 3), (11, 4), (11, 5), (11, 6), (13, 0), (13, 1), (13, 2)] [(10, 0), (13, 0)] true M (cP 8 (cP 8 M a0 9 (.int x3)) a0 4 (.int 4)) := hx.putI 4 ho109 (by decide) (by decide)
            subst hF
            exact hx
          · rw [if_neg hc75] at hF hS
            obtain ⟨ho76, hS⟩ := hS
            obtain ⟨hs77, hS⟩ := hS
            rw [mbind_eq] at hF hS
            replace hx := Ext.then hM hx (x_Ma_isFull cs lim _ a0 (1 + x7) hx.ok hs77) (by decide) (by decide) (by decide)
            generalize F_Ma_isFull cs M a0 (1 + x7) = w78 at hF hS hx
            by_cases hc79 : w78.1 = 0
            · rw [if_pos hc79] at hF hS
              obtain ⟨ho80, hS⟩ := hS
              obtain ⟨ho81, hS⟩ := hS
              obtain ⟨hs82, hS⟩ := hS
              rw [mbind_eq] at hF hS
              replace hx := Ext.then hM hx (x_Ma_holdFrames cs lim dE _ a0 x5 x7 hx.ok hs82) (by decide) (by decide) (by decide)
              generalize F_Ma_holdFrames cs dE w78.2 a0 x5 x7 = w83 at hF hS hx
              obtain ⟨ho84, hS⟩ := hS
              obtain ⟨ho85, hS⟩ := hS
              obtain ⟨ho86, hS⟩ := hS
              obtain ⟨hs87, hS⟩ := hS
              rw [mbind_eq] at hF hS
              generalize hq_w88 : F_Co_field cs w83.2 ((cQ w83.2 a0 0).getD 0) x6 2 = w88 at hF hS
              obtain ⟨ho89, hS⟩ := hS
              obtain ⟨hs90, hS⟩ := hS
              rw [mbind_eq] at hF hS
              replace hx := Ext.then hM hx (x_Ma_enter cs lim dE _ a0 (cQ w78.2 (x5.getD 0) 4) (cQ w83.2 (x5.getD 0) 3) w88 hx.ok hs90) (by decide) (by decide) (by decide)
              generalize F_Ma_enter cs dE w83.2 a0 (cQ w78.2 (x5.getD 0) 4) (cQ w83.2 (x5.getD 0) 3) w88 = w91 at hF hS hx
              obtain ⟨ho92, hS⟩ := hS
              obtain ⟨ho93, hS⟩ := hS
              obtain ⟨ho94, hS⟩ := hS
              obtain ⟨hs95, hS⟩ := hS
              rw [mbind_eq] at hF hS
              generalize hq_w96 : F_Co_field cs w91 ((cQ w91 a0 0).getD 0) x6 3 = w96 at hF hS
              obtain ⟨ho97, hS⟩ := hS
              obtain ⟨hs98, hS⟩ := hS
              rw [mbind_eq] at hF hS
              replace hx := Ext.then hM hx (x_Fr_give cs lim _ ((cQ w91 a0 10).getD 0) w96 x4 hx.ok hs98) (by decide) (by decide) (by decide)
              generalize F_Fr_give cs w91 ((cQ w91 a0 10).getD 0) w96 x4 = w99 at hF hS hx
              obtain ⟨ho100, hS⟩ := hS
              obtain ⟨ho101, hS⟩ := hS
              obtain ⟨ho102, hS⟩ := hS
              obtain ⟨hs103, hS⟩ := hS
              rw [mbind_eq] at hF hS
              generalize hq_w104 : F_Co_field cs w99 ((cQ w99 a0 0).getD 0) x6 4 = w104 at hF hS
              obtain ⟨ho105, hS⟩ := hS
              obtain ⟨hs106, hS⟩ := hS
              rw [mbind_eq] at hF hS
              replace hx := Ext.then hM hx (x_Fr_give cs lim _ ((cQ w99 a0 10).getD 0) w104 w83.1 hx.ok hs106) (by decide) (by decide) (by decide)
              generalize F_Fr_give cs w99 ((cQ w99 a0 10).getD 0) w104 w83.1 = w107 at hF hS hx
              subst hF
              exact hx
            · rw [if_neg hc79] at hF hS
              subst hF
              exact hx
        · rw [if_neg hc74] at hF hS
          obtain ⟨ho110, hS⟩ := hS
          obtain ⟨ho111, hS⟩ := hS
          obtain ⟨ho112, hS⟩ := hS
          obtain ⟨ho113, hS⟩ := hS
          obtain ⟨hs114, hS⟩ := hS
          rw [mbind_eq] at hF hS
          generalize hq_w115 : F_Co_caseOf cs n M ((cQ M a0 0).getD 0) (cQ M ((cQ M (x5.getD 0) 4).getD 0) 3) x3 = w115 at hF hS
          exact Ext.trans hM hx (ih M a0 x1 x2 x3 x4 (cQ M (x5.getD 0) 4) w115 (x7 + 1) Fv hx.ok hS hF)
    · rw [if_neg hc1] at hF hS
      by_cases hc2 : x6 = (-1)
      · rw [if_pos hc2] at hF hS
        obtain ⟨ho35, hS⟩ := hS
        replace hx : Ext [(8, 4), (8, 6), (8, 7), (8, 8), (8, 9), (8, 10), (8, 12), (8, 13), (9, 2), (9, 3), (9, 4), (10, 0), (10, 1), (10, 2), (10, 3), (10, 4), (11, 0), (11, 2), (11, 3), (11, 4), (11, 5), (11, 6), (13, 0), (13, 1), (13, 2)] [(10, 0), (13, 0)] true M (cP 8 M a0 9 (.int x3)) := hx.putI 9 ho35 (by decide) (by decide)
        obtain ⟨ho36, hS⟩ := hS
        replace hx : Ext [(8, 4), (8, 6), (8, 7), (8, 8), (8, 9), (8, 10), (8, 12), (8, 13), (9, 2), (9, 3), (9, 4), (10, 0), (10, 1), (10, 2), (10, 3), (10, 4), (11, 0), (11, 2), (11, 3), (11, 4), (11, 5), (11, 6), (13, 0), (13, 1), (13, 2)] [(10, 0), (13, 0)] true M (cP 8 (cP 8 M a0 9 (.int x3)) a0 4 (.int 4)) := hx.putI 4 ho36 (by decide) (by decide)
        subst hF
        exact hx
      · rw [if_neg hc2] at hF hS
        obtain ⟨ho3, hS⟩ := hS
        obtain ⟨hs4, hS⟩ := hS
        rw [mbind_eq] at hF hS
        replace hx := Ext.then hM hx (x_Ma_isFull cs lim _ a0 (1 + x7) hx.ok hs4) (by decide) (by decide) (by decide)
        generalize F_Ma_isFull cs M a0 (1 + x7) = w5 at hF hS hx
        by_cases hc6 : w5.1 = 0
        · rw [if_pos hc6] at hF hS
          obtain ⟨ho7, hS⟩ := hS
          obtain ⟨ho8, hS⟩ := hS
          obtain ⟨hs9, hS⟩ := hS
          rw [mbind_eq] at hF hS
          replace hx := Ext.then hM hx (x_Ma_holdFrames cs lim dE _ a0 x5 x7 hx.ok hs9) (by decide) (by decide) (by decide)
          generalize F_Ma_holdFrames cs dE w5.2 a0 x5 x7 = w10 at hF hS hx
          obtain ⟨ho11, hS⟩ := hS
          obtain ⟨ho12, hS⟩ := hS
          obtain ⟨ho13, hS⟩ := hS
          obtain ⟨hs14, hS⟩ := hS
          rw [mbind_eq] at hF hS
          generalize hq_w15 : F_Co_field cs w10.2 ((cQ w10.2 a0 0).getD 0) x6 2 = w15 at hF hS
          obtain ⟨ho16, hS⟩ := hS
          obtain ⟨hs17, hS⟩ := hS
          rw [mbind_eq] at hF hS
          replace hx := Ext.then hM hx (x_Ma_enter cs lim dE _ a0 (cQ w5.2 (x5.getD 0) 4) (cQ w10.2 (x5.getD 0) 3) w15 hx.ok hs17) (by decide) (by decide) (by decide)
          generalize F_Ma_enter cs dE w10.2 a0 (cQ w5.2 (x5.getD 0) 4) (cQ w10.2 (x5.getD 0) 3) w15 = w18 at hF hS hx
          obtain ⟨ho19, hS⟩ := hS
          obtain ⟨ho20, hS⟩ := hS
          obtain ⟨ho21, hS⟩ := hS
          obtain ⟨hs22, hS⟩ := hS
          rw [mbind_eq] at hF hS
          generalize hq_w23 : F_Co_field cs w18 ((cQ w18 a0 0).getD 0) x6 3 = w23 at hF hS
          obtain ⟨ho24, hS⟩ := hS
          obtain ⟨hs25, hS⟩ := hS
          rw [mbind_eq] at hF hS
          replace hx := Ext.then hM hx (x_Fr_give cs lim _ ((cQ w18 a0 10).getD 0) w23 x4 hx.ok hs25) (by decide) (by decide) (by decide)
          generalize F_Fr_give cs w18 ((cQ w18 a0 10).getD 0) w23 x4 = w26 at hF hS hx
          obtain ⟨ho27, hS⟩ := hS
          obtain ⟨ho28, hS⟩ := hS
          obtain ⟨ho29, hS⟩ := hS
          obtain ⟨hs30, hS⟩ := hS
          rw [mbind_eq] at hF hS
          generalize hq_w31 : F_Co_field cs w26 ((cQ w26 a0 0).getD 0) x6 4 = w31 at hF hS
          obtain ⟨ho32, hS⟩ := hS
          obtain ⟨hs33, hS⟩ := hS
          rw [mbind_eq] at hF hS
          replace hx := Ext.then hM hx (x_Fr_give cs lim _ ((cQ w26 a0 10).getD 0) w31 w10.1 hx.ok hs33) (by decide) (by decide) (by decide)
          generalize F_Fr_give cs w26 ((cQ w26 a0 10).getD 0) w31 w10.1 = w34 at hF hS hx
          subst hF
          exact hx
        · rw [if_neg hc6] at hF hS
          subst hF
          exact hx
theorem x_Ma_raise (cs : Nat → ClassId) (lim : Nat × Nat) (dE : Nat × Nat) (n : Nat) (M : gMem) (a0 : Nat) (x1 : Option Nat) (x2 : Int32) (x3 : Int32) (hM : MOk M) (hS : S_Ma_raise cs lim dE n M a0 x1 x2 x3) : Ext [(8, 4), (8, 6), (8, 7), (8, 8), (8, 9), (8, 10), (8, 12), (8, 13), (9, 2), (9, 3), (9, 4), (10, 0), (10, 1), (10, 2), (10, 3), (10, 4), (11, 0), (11, 2), (11, 3), (11, 4), (11, 5), (11, 6), (13, 0), (13, 1), (13, 2)] [(10, 0), (13, 0)] true M (F_Ma_raise cs dE n M a0 x1 x2 x3) := by
  generalize hF : F_Ma_raise cs dE n M a0 x1 x2 x3 = Fv
  unfold F_Ma_raise at hF
  unfold S_Ma_raise at hS
  have hx : Ext [(8, 4), (8, 6), (8, 7), (8, 8), (8, 9), (8, 10), (8, 12), (8, 13), (9, 2), (9, 3), (9, 4), (10, 0), (10, 1), (10, 2), (10, 3), (10, 4), (11, 0), (11, 2), (11, 3), (11, 4), (11, 5), (11, 6), (13, 0), (13, 1), (13, 2)] [(10, 0), (13, 0)] true M M := Ext.rf hM
  obtain ⟨ho1, hS⟩ := hS
  obtain ⟨hs2, hS⟩ := hS
  rw [mbind_eq] at hF hS
  replace hx := Ext.then hM hx (x_Ma_takesFuel cs lim _ a0 x1 x2 hx.ok hs2) (by decide) (by decide) (by decide)
  generalize F_Ma_takesFuel cs M a0 x1 x2 = w3 at hF hS hx
  by_cases hc4 : w3.1 = 0
  · rw [if_pos hc4] at hF hS
    subst hF
    exact hx
  · rw [if_neg hc4] at hF hS
    obtain ⟨ho5, hS⟩ := hS
    obtain ⟨hs6, hS⟩ := hS
    rw [mbind_eq] at hF hS
    replace hx := Ext.then hM hx (x_Fr_pop cs lim _ (x1.getD 0)  hx.ok hs6) (by decide) (by decide) (by decide)
    generalize F_Fr_pop cs w3.2 (x1.getD 0)  = w7 at hF hS hx
    obtain ⟨ho8, hS⟩ := hS
    obtain ⟨ho9, hS⟩ := hS
    obtain ⟨ho10, hS⟩ := hS
    obtain ⟨hs11, hS⟩ := hS
    rw [mbind_eq] at hF hS
    generalize hq_w12 : F_Co_caseOf cs n w7.2 ((cQ w7.2 a0 0).getD 0) (cQ w7.2 (x1.getD 0) 3) x3 = w12 at hF hS
    exact Ext.trans hM hx (xw_Ma_raise_37 cs lim dE n w7.2 a0 x1 x2 x3 w7.1 x1 w12 1 Fv hx.ok hS hF)
theorem x_Ma_end (cs : Nat → ClassId) (lim : Nat × Nat) (M : gMem) (a0 : Nat) (x1 : Option Nat) (hM : MOk M) (hS : S_Ma_end cs lim M a0 x1) : Ext [(8, 4), (8, 5), (8, 8), (8, 10), (9, 4), (10, 1), (10, 3), (10, 4)] [(10, 0)] false M (F_Ma_end cs M a0 x1) := by
  generalize hF : F_Ma_end cs M a0 x1 = Fv
  unfold F_Ma_end at hF
  unfold S_Ma_end at hS
  have hx : Ext [(8, 4), (8, 5), (8, 8), (8, 10), (9, 4), (10, 1), (10, 3), (10, 4)] [(10, 0)] false M M := Ext.rf hM
  obtain ⟨ho1, hS⟩ := hS
  obtain ⟨hs2, hS⟩ := hS
  rw [mbind_eq] at hF hS
  replace hx := Ext.then hM hx (x_Fr_pop cs lim _ (x1.getD 0)  hx.ok hs2) (by decide) (by decide) (by decide)
  generalize F_Fr_pop cs M (x1.getD 0)  = w3 at hF hS hx
  obtain ⟨ho4, hS⟩ := hS
  by_cases hc5 : (cQ w3.2 (x1.getD 0) 4) = none
  · rw [if_pos hc5] at hF hS
    obtain ⟨ho16, hS⟩ := hS
    replace hx : Ext [(8, 4), (8, 5), (8, 8), (8, 10), (9, 4), (10, 1), (10, 3), (10, 4)] [(10, 0)] false M (cP 8 w3.2 a0 4 (.int 2)) := hx.putI 4 ho16 (by decide) (by decide)
    obtain ⟨ho17, hS⟩ := hS
    by_cases hc18 : (cI (cP 8 w3.2 a0 4 (.int 2)) a0 3) = 0
    · rw [if_pos hc18] at hF hS
      obtain ⟨ho19, hS⟩ := hS
      replace hx : Ext [(8, 4), (8, 5), (8, 8), (8, 10), (9, 4), (10, 1), (10, 3), (10, 4)] [(10, 0)] false M (cP 8 (cP 8 w3.2 a0 4 (.int 2)) a0 5 (.int 0)) := hx.putI 5 ho19 (by decide) (by decide)
      subst hF
      exact hx
    · rw [if_neg hc18] at hF hS
      obtain ⟨ho20, hS⟩ := hS
      replace hx : Ext [(8, 4), (8, 5), (8, 8), (8, 10), (9, 4), (10, 1), (10, 3), (10, 4)] [(10, 0)] false M (cP 8 (cP 8 w3.2 a0 4 (.int 2)) a0 5 (.int w3.1)) := hx.putI 5 ho20 (by decide) (by decide)
      subst hF
      exact hx
  · rw [if_neg hc5] at hF hS
    obtain ⟨ho6, hS⟩ := hS
    obtain ⟨hs7, hS⟩ := hS
    rw [mbind_eq] at hF hS
    replace hx := Ext.then hM hx (x_Fr_push cs lim _ ((cQ w3.2 (x1.getD 0) 4).getD 0) w3.1 hx.ok hs7) (by decide) (by decide) (by decide)
    generalize F_Fr_push cs w3.2 ((cQ w3.2 (x1.getD 0) 4).getD 0) w3.1 = w8 at hF hS hx
    obtain ⟨ho9, hS⟩ := hS
    replace hx : Ext [(8, 4), (8, 5), (8, 8), (8, 10), (9, 4), (10, 1), (10, 3), (10, 4)] [(10, 0)] false M (cP 8 w8 a0 10 (va_rf (cQ w3.2 (x1.getD 0) 4))) := hx.putQ 10 ho9 (by decide) (by decide) (by decide)
    obtain ⟨ho10, hS⟩ := hS
    obtain ⟨ho11, hS⟩ := hS
    replace hx : Ext [(8, 4), (8, 5), (8, 8), (8, 10), (9, 4), (10, 1), (10, 3), (10, 4)] [(10, 0)] false M (cP 8 (cP 8 w8 a0 10 (va_rf (cQ w3.2 (x1.getD 0) 4))) a0 8 (.int ((cI (cP 8 w8 a0 10 (va_rf (cQ w3.2 (x1.getD 0) 4))) a0 8) - 1))) := hx.putI 8 ho11 (by decide) (by decide)
    obtain ⟨ho12, hS⟩ := hS
    obtain ⟨ho13, hS⟩ := hS
    obtain ⟨hs14, hS⟩ := hS
    rw [mbind_eq] at hF hS
    replace hx := Ext.then hM hx (x_St_giveBack cs lim _ ((cQ (cP 8 (cP 8 w8 a0 10 (va_rf (cQ w3.2 (x1.getD 0) 4))) a0 8 (.int ((cI (cP 8 w8 a0 10 (va_rf (cQ w3.2 (x1.getD 0) 4))) a0 8) - 1))) a0 1).getD 0) x1 hx.ok hs14) (by decide) (by decide) (by decide)
    generalize F_St_giveBack cs (cP 8 (cP 8 w8 a0 10 (va_rf (cQ w3.2 (x1.getD 0) 4))) a0 8 (.int ((cI (cP 8 w8 a0 10 (va_rf (cQ w3.2 (x1.getD 0) 4))) a0 8) - 1))) ((cQ (cP 8 (cP 8 w8 a0 10 (va_rf (cQ w3.2 (x1.getD 0) 4))) a0 8 (.int ((cI (cP 8 w8 a0 10 (va_rf (cQ w3.2 (x1.getD 0) 4))) a0 8) - 1))) a0 1).getD 0) x1 = w15 at hF hS hx
    subst hF
    exact hx
theorem x_Ma_work (cs : Nat → ClassId) (lim : Nat × Nat) (dE : Nat × Nat) (n : Nat) (M : gMem) (a0 : Nat) (x1 : Option Nat) (x2 : Int32) (hM : MOk M) (hS : S_Ma_work cs lim dE n M a0 x1 x2) : Ext [(8, 4), (8, 5), (8, 6), (8, 7), (8, 8), (8, 9), (8, 10), (8, 12), (8, 13), (9, 2), (9, 3), (9, 4), (10, 0), (10, 1), (10, 2), (10, 3), (10, 4), (11, 0), (11, 1), (11, 2), (11, 3), (11, 4), (11, 5), (11, 6), (13, 0), (13, 1), (13, 2)] [(10, 0), (11, 0), (13, 0)] true M (F_Ma_work cs dE n M a0 x1 x2) := by
  generalize hF : F_Ma_work cs dE n M a0 x1 x2 = Fv
  unfold F_Ma_work at hF
  unfold S_Ma_work at hS
  have hx : Ext [(8, 4), (8, 5), (8, 6), (8, 7), (8, 8), (8, 9), (8, 10), (8, 12), (8, 13), (9, 2), (9, 3), (9, 4), (10, 0), (10, 1), (10, 2), (10, 3), (10, 4), (11, 0), (11, 1), (11, 2), (11, 3), (11, 4), (11, 5), (11, 6), (13, 0), (13, 1), (13, 2)] [(10, 0), (11, 0), (13, 0)] true M M := Ext.rf hM
  obtain ⟨ho1, hS⟩ := hS
  obtain ⟨ho2, hS⟩ := hS
  obtain ⟨hs3, hS⟩ := hS
  rw [mbind_eq] at hF hS
  generalize hq_w4 : F_Co_field cs M ((cQ M a0 0).getD 0) x2 1 = w4 at hF hS
  obtain ⟨ho5, hS⟩ := hS
  replace hx : Ext [(8, 4), (8, 5), (8, 6), (8, 7), (8, 8), (8, 9), (8, 10), (8, 12), (8, 13), (9, 2), (9, 3), (9, 4), (10, 0), (10, 1), (10, 2), (10, 3), (10, 4), (11, 0), (11, 1), (11, 2), (11, 3), (11, 4), (11, 5), (11, 6), (13, 0), (13, 1), (13, 2)] [(10, 0), (11, 0), (13, 0)] true M (cP 10 M (x1.getD 0) 2 (.int (x2 + 1))) := hx.putI 2 (cOq.at ho5).2 (by decide) (by decide)
  obtain ⟨ho6, hS⟩ := hS
  obtain ⟨ho7, hS⟩ := hS
  obtain ⟨hs8, hS⟩ := hS
  rw [mbind_eq] at hF hS
  generalize hq_w9 : F_Co_operation cs (cP 10 M (x1.getD 0) 2 (.int (x2 + 1))) ((cQ (cP 10 M (x1.getD 0) 2 (.int (x2 + 1))) a0 0).getD 0) x2 = w9 at hF hS
  by_cases hc10 : w9 = 1
  · rw [if_pos hc10] at hF hS
    obtain ⟨ho11, hS⟩ := hS
    obtain ⟨hs12, hS⟩ := hS
    rw [mbind_eq] at hF hS
    replace hx := Ext.then hM hx (x_Fr_push cs lim _ (x1.getD 0) w4 hx.ok hs12) (by decide) (by decide) (by decide)
    generalize F_Fr_push cs (cP 10 M (x1.getD 0) 2 (.int (x2 + 1))) (x1.getD 0) w4 = w13 at hF hS hx
    subst hF
    exact hx
  · rw [if_neg hc10] at hF hS
    by_cases hc14 : w9 = 2
    · rw [if_pos hc14] at hF hS
      obtain ⟨ho15, hS⟩ := hS
      obtain ⟨hs16, hS⟩ := hS
      rw [mbind_eq] at hF hS
      generalize hq_w17 : F_Fr_valueOf cs (cP 10 M (x1.getD 0) 2 (.int (x2 + 1))) (x1.getD 0) w4 = w17 at hF hS
      obtain ⟨ho18, hS⟩ := hS
      obtain ⟨hs19, hS⟩ := hS
      rw [mbind_eq] at hF hS
      replace hx := Ext.then hM hx (x_Fr_push cs lim _ (x1.getD 0) w17 hx.ok hs19) (by decide) (by decide) (by decide)
      generalize F_Fr_push cs (cP 10 M (x1.getD 0) 2 (.int (x2 + 1))) (x1.getD 0) w17 = w20 at hF hS hx
      subst hF
      exact hx
    · rw [if_neg hc14] at hF hS
      by_cases hc21 : w9 = 3
      · rw [if_pos hc21] at hF hS
        obtain ⟨ho22, hS⟩ := hS
        obtain ⟨hs23, hS⟩ := hS
        rw [mbind_eq] at hF hS
        replace hx := Ext.then hM hx (x_Ma_bind cs lim _ a0 x1 w4 hx.ok hs23) (by decide) (by decide) (by decide)
        generalize F_Ma_bind cs (cP 10 M (x1.getD 0) 2 (.int (x2 + 1))) a0 x1 w4 = w24 at hF hS hx
        subst hF
        exact hx
      · rw [if_neg hc21] at hF hS
        by_cases hc25 : w9 = 4
        · rw [if_pos hc25] at hF hS
          obtain ⟨ho26, hS⟩ := hS
          obtain ⟨hs27, hS⟩ := hS
          rw [mbind_eq] at hF hS
          replace hx := Ext.then hM hx (x_Ma_unbind cs lim _ a0 x1 w4 hx.ok hs27) (by decide) (by decide) (by decide)
          generalize F_Ma_unbind cs (cP 10 M (x1.getD 0) 2 (.int (x2 + 1))) a0 x1 w4 = w28 at hF hS hx
          subst hF
          exact hx
        · rw [if_neg hc25] at hF hS
          by_cases hc29 : w9 = 5
          · rw [if_pos hc29] at hF hS
            obtain ⟨ho30, hS⟩ := hS
            replace hx : Ext [(8, 4), (8, 5), (8, 6), (8, 7), (8, 8), (8, 9), (8, 10), (8, 12), (8, 13), (9, 2), (9, 3), (9, 4), (10, 0), (10, 1), (10, 2), (10, 3), (10, 4), (11, 0), (11, 1), (11, 2), (11, 3), (11, 4), (11, 5), (11, 6), (13, 0), (13, 1), (13, 2)] [(10, 0), (11, 0), (13, 0)] true M (cP 10 (cP 10 M (x1.getD 0) 2 (.int (x2 + 1))) (x1.getD 0) 2 (.int w4)) := hx.putI 2 (cOq.at ho30).2 (by decide) (by decide)
            subst hF
            exact hx
          · rw [if_neg hc29] at hF hS
            by_cases hc31 : w9 = 6
            · rw [if_pos hc31] at hF hS
              obtain ⟨ho32, hS⟩ := hS
              obtain ⟨hs33, hS⟩ := hS
              rw [mbind_eq] at hF hS
              replace hx := Ext.then hM hx (x_Fr_pop cs lim _ (x1.getD 0)  hx.ok hs33) (by decide) (by decide) (by decide)
              generalize F_Fr_pop cs (cP 10 M (x1.getD 0) 2 (.int (x2 + 1))) (x1.getD 0)  = w34 at hF hS hx
              by_cases hc35 : w34.1 = 0
              · rw [if_pos hc35] at hF hS
                obtain ⟨ho37, hS⟩ := hS
                replace hx : Ext [(8, 4), (8, 5), (8, 6), (8, 7), (8, 8), (8, 9), (8, 10), (8, 12), (8, 13), (9, 2), (9, 3), (9, 4), (10, 0), (10, 1), (10, 2), (10, 3), (10, 4), (11, 0), (11, 1), (11, 2), (11, 3), (11, 4), (11, 5), (11, 6), (13, 0), (13, 1), (13, 2)] [(10, 0), (11, 0), (13, 0)] true M (cP 10 w34.2 (x1.getD 0) 2 (.int w4)) := hx.putI 2 (cOq.at ho37).2 (by decide) (by decide)
                subst hF
                exact hx
              · rw [if_neg hc35] at hF hS
                obtain ⟨ho36, hS⟩ := hS
                replace hx : Ext [(8, 4), (8, 5), (8, 6), (8, 7), (8, 8), (8, 9), (8, 10), (8, 12), (8, 13), (9, 2), (9, 3), (9, 4), (10, 0), (10, 1), (10, 2), (10, 3), (10, 4), (11, 0), (11, 1), (11, 2), (11, 3), (11, 4), (11, 5), (11, 6), (13, 0), (13, 1), (13, 2)] [(10, 0), (11, 0), (13, 0)] true M (cP 10 w34.2 (x1.getD 0) 2 (.int (x2 + 1))) := hx.putI 2 (cOq.at ho36).2 (by decide) (by decide)
                subst hF
                exact hx
            · rw [if_neg hc31] at hF hS
              by_cases hc38 : w9 = 7
              · rw [if_pos hc38] at hF hS
                obtain ⟨ho39, hS⟩ := hS
                obtain ⟨hs40, hS⟩ := hS
                rw [mbind_eq] at hF hS
                replace hx := Ext.then hM hx (x_Ma_combine cs lim _ a0 x1 w4 hx.ok hs40) (by decide) (by decide) (by decide)
                generalize F_Ma_combine cs (cP 10 M (x1.getD 0) 2 (.int (x2 + 1))) a0 x1 w4 = w41 at hF hS hx
                subst hF
                exact hx
              · rw [if_neg hc38] at hF hS
                by_cases hc42 : w9 = 8
                · rw [if_pos hc42] at hF hS
                  obtain ⟨ho43, hS⟩ := hS
                  obtain ⟨hs44, hS⟩ := hS
                  rw [mbind_eq] at hF hS
                  replace hx := Ext.then hM hx (x_Ma_close cs lim dE _ a0 x1 x2 hx.ok hs44) (by decide) (by decide) (by decide)
                  generalize F_Ma_close cs dE (cP 10 M (x1.getD 0) 2 (.int (x2 + 1))) a0 x1 x2 = w45 at hF hS hx
                  subst hF
                  exact hx
                · rw [if_neg hc42] at hF hS
                  by_cases hc46 : w9 = 9
                  · rw [if_pos hc46] at hF hS
                    obtain ⟨ho47, hS⟩ := hS
                    obtain ⟨hs48, hS⟩ := hS
                    rw [mbind_eq] at hF hS
                    replace hx := Ext.then hM hx (x_Ma_install cs lim dE _ a0 x1 x2 hx.ok hs48) (by decide) (by decide) (by decide)
                    generalize F_Ma_install cs dE (cP 10 M (x1.getD 0) 2 (.int (x2 + 1))) a0 x1 x2 = w49 at hF hS hx
                    subst hF
                    exact hx
                  · rw [if_neg hc46] at hF hS
                    by_cases hc50 : w9 = 10
                    · rw [if_pos hc50] at hF hS
                      obtain ⟨ho51, hS⟩ := hS
                      obtain ⟨hs52, hS⟩ := hS
                      rw [mbind_eq] at hF hS
                      replace hx := Ext.then hM hx (x_Ma_end cs lim _ a0 x1 hx.ok hs52) (by decide) (by decide) (by decide)
                      generalize F_Ma_end cs (cP 10 M (x1.getD 0) 2 (.int (x2 + 1))) a0 x1 = w53 at hF hS hx
                      subst hF
                      exact hx
                    · rw [if_neg hc50] at hF hS
                      by_cases hc54 : w9 = 11
                      · rw [if_pos hc54] at hF hS
                        obtain ⟨ho55, hS⟩ := hS
                        obtain ⟨hs56, hS⟩ := hS
                        rw [mbind_eq] at hF hS
                        replace hx := Ext.then hM hx (x_Ma_endBody cs lim _ a0 x1 hx.ok hs56) (by decide) (by decide) (by decide)
                        generalize F_Ma_endBody cs (cP 10 M (x1.getD 0) 2 (.int (x2 + 1))) a0 x1 = w57 at hF hS hx
                        subst hF
                        exact hx
                      · rw [if_neg hc54] at hF hS
                        by_cases hc58 : w9 = 12
                        · rw [if_pos hc58] at hF hS
                          obtain ⟨ho59, hS⟩ := hS
                          obtain ⟨hs60, hS⟩ := hS
                          rw [mbind_eq] at hF hS
                          replace hx := Ext.then hM hx (x_Ma_apply cs lim dE _ a0 x1 x2 hx.ok hs60) (by decide) (by decide) (by decide)
                          generalize F_Ma_apply cs dE (cP 10 M (x1.getD 0) 2 (.int (x2 + 1))) a0 x1 x2 = w61 at hF hS hx
                          subst hF
                          exact hx
                        · rw [if_neg hc58] at hF hS
                          by_cases hc62 : w9 = 13
                          · rw [if_pos hc62] at hF hS
                            obtain ⟨ho63, hS⟩ := hS
                            obtain ⟨hs64, hS⟩ := hS
                            rw [mbind_eq] at hF hS
                            replace hx := Ext.then hM hx (x_Ma_raise cs lim dE n _ a0 x1 x2 w4 hx.ok hs64) (by decide) (by decide) (by decide)
                            generalize F_Ma_raise cs dE n (cP 10 M (x1.getD 0) 2 (.int (x2 + 1))) a0 x1 x2 w4 = w65 at hF hS hx
                            subst hF
                            exact hx
                          · rw [if_neg hc62] at hF hS
                            obtain ⟨ho66, hS⟩ := hS
                            obtain ⟨hs67, hS⟩ := hS
                            rw [mbind_eq] at hF hS
                            replace hx := Ext.then hM hx (x_Ma_end cs lim _ a0 x1 hx.ok hs67) (by decide) (by decide) (by decide)
                            generalize F_Ma_end cs (cP 10 M (x1.getD 0) 2 (.int (x2 + 1))) a0 x1 = w68 at hF hS hx
                            subst hF
                            exact hx
theorem xw_Ma_goOnFor_17 (cs : Nat → ClassId) (lim : Nat × Nat) (dE : Nat × Nat) : ∀ (n : Nat) (M : gMem) (a0 : Nat) (x1 : Int32) (x2 : Int32) (Fv : Int32 × gMem) (hM : MOk M) (hS : S_Ma_goOnFor_17 cs lim dE n M a0 x1 x2) (hF : F_Ma_goOnFor_17 cs dE n M a0 x1 x2 = Fv), Ext [(8, 4), (8, 5), (8, 6), (8, 7), (8, 8), (8, 9), (8, 10), (8, 11), (8, 12), (8, 13), (9, 2), (9, 3), (9, 4), (10, 0), (10, 1), (10, 2), (10, 3), (10, 4), (11, 0), (11, 1), (11, 2), (11, 3), (11, 4), (11, 5), (11, 6), (13, 0), (13, 1), (13, 2)] [(10, 0), (11, 0), (13, 0)] true M Fv.2 := by
  intro n
  induction n with
  | zero =>
    intro M a0 x1 x2 Fv hM hS hF
    exact hS.elim
  | succ n ih =>
    intro M a0 x1 x2 Fv hM hS hF
    simp only [S_Ma_goOnFor_17] at hS
    simp only [F_Ma_goOnFor_17] at hF
    have hx : Ext [(8, 4), (8, 5), (8, 6), (8, 7), (8, 8), (8, 9), (8, 10), (8, 11), (8, 12), (8, 13), (9, 2), (9, 3), (9, 4), (10, 0), (10, 1), (10, 2), (10, 3), (10, 4), (11, 0), (11, 1), (11, 2), (11, 3), (11, 4), (11, 5), (11, 6), (13, 0), (13, 1), (13, 2)] [(10, 0), (11, 0), (13, 0)] true M M := Ext.rf hM
    by_cases hc1 : 4000000 ≤ x2
    · rw [if_pos hc1] at hF hS
      obtain ⟨ho2, hS⟩ := hS
      subst hF
      exact hx
    · rw [if_neg hc1] at hF hS
      obtain ⟨ho3, hS⟩ := hS
      by_cases hc4 : (cI M a0 4) = 1
      · rw [if_pos hc4] at hF hS
        obtain ⟨ho6, hS⟩ := hS
        by_cases hc7 : (cI M a0 13) = 0
        · rw [if_pos hc7] at hF hS
          obtain ⟨ho9, hS⟩ := hS
          by_cases hc10 : (cQ M a0 10) = none
          · rw [if_pos hc10] at hF hS
            obtain ⟨ho11, hS⟩ := hS
            subst hF
            exact hx
          · rw [if_neg hc10] at hF hS
            obtain ⟨ho12, hS⟩ := hS
            obtain ⟨ho13, hS⟩ := hS
            obtain ⟨ho14, hS⟩ := hS
            obtain ⟨ho15, hS⟩ := hS
            obtain ⟨hs16, hS⟩ := hS
            rw [mbind_eq] at hF hS
            replace hx := Ext.then hM hx (x_Ma_work cs lim dE n _ a0 (cQ M a0 10) (cI M ((cQ M a0 10).getD 0) 2) hx.ok hs16) (by decide) (by decide) (by decide)
            generalize F_Ma_work cs dE n M a0 (cQ M a0 10) (cI M ((cQ M a0 10).getD 0) 2) = w17 at hF hS hx
            exact Ext.trans hM hx (ih w17 a0 x1 (x2 + 1) Fv hx.ok hS hF)
        · rw [if_neg hc7] at hF hS
          obtain ⟨ho8, hS⟩ := hS
          subst hF
          exact hx
      · rw [if_neg hc4] at hF hS
        obtain ⟨ho5, hS⟩ := hS
        subst hF
        exact hx
theorem x_Ma_goOnFor (cs : Nat → ClassId) (lim : Nat × Nat) (dE : Nat × Nat) (n : Nat) (M : gMem) (a0 : Nat) (x1 : Int32) (hM : MOk M) (hS : S_Ma_goOnFor cs lim dE n M a0 x1) : Ext [(8, 4), (8, 5), (8, 6), (8, 7), (8, 8), (8, 9), (8, 10), (8, 11), (8, 12), (8, 13), (9, 2), (9, 3), (9, 4), (10, 0), (10, 1), (10, 2), (10, 3), (10, 4), (11, 0), (11, 1), (11, 2), (11, 3), (11, 4), (11, 5), (11, 6), (13, 0), (13, 1), (13, 2)] [(10, 0), (11, 0), (13, 0)] true M ((F_Ma_goOnFor cs dE n M a0 x1).2) := by
  generalize hF : F_Ma_goOnFor cs dE n M a0 x1 = Fv
  unfold F_Ma_goOnFor at hF
  unfold S_Ma_goOnFor at hS
  have hx : Ext [(8, 4), (8, 5), (8, 6), (8, 7), (8, 8), (8, 9), (8, 10), (8, 11), (8, 12), (8, 13), (9, 2), (9, 3), (9, 4), (10, 0), (10, 1), (10, 2), (10, 3), (10, 4), (11, 0), (11, 1), (11, 2), (11, 3), (11, 4), (11, 5), (11, 6), (13, 0), (13, 1), (13, 2)] [(10, 0), (11, 0), (13, 0)] true M M := Ext.rf hM
  obtain ⟨ho1, hS⟩ := hS
  replace hx : Ext [(8, 4), (8, 5), (8, 6), (8, 7), (8, 8), (8, 9), (8, 10), (8, 11), (8, 12), (8, 13), (9, 2), (9, 3), (9, 4), (10, 0), (10, 1), (10, 2), (10, 3), (10, 4), (11, 0), (11, 1), (11, 2), (11, 3), (11, 4), (11, 5), (11, 6), (13, 0), (13, 1), (13, 2)] [(10, 0), (11, 0), (13, 0)] true M (cP 8 M a0 11 (.int x1)) := hx.putI 11 ho1 (by decide) (by decide)
  obtain ⟨ho2, hS⟩ := hS
  replace hx : Ext [(8, 4), (8, 5), (8, 6), (8, 7), (8, 8), (8, 9), (8, 10), (8, 11), (8, 12), (8, 13), (9, 2), (9, 3), (9, 4), (10, 0), (10, 1), (10, 2), (10, 3), (10, 4), (11, 0), (11, 1), (11, 2), (11, 3), (11, 4), (11, 5), (11, 6), (13, 0), (13, 1), (13, 2)] [(10, 0), (11, 0), (13, 0)] true M (cP 8 (cP 8 M a0 11 (.int x1)) a0 12 (.int 0)) := hx.putI 12 ho2 (by decide) (by decide)
  obtain ⟨ho3, hS⟩ := hS
  replace hx : Ext [(8, 4), (8, 5), (8, 6), (8, 7), (8, 8), (8, 9), (8, 10), (8, 11), (8, 12), (8, 13), (9, 2), (9, 3), (9, 4), (10, 0), (10, 1), (10, 2), (10, 3), (10, 4), (11, 0), (11, 1), (11, 2), (11, 3), (11, 4), (11, 5), (11, 6), (13, 0), (13, 1), (13, 2)] [(10, 0), (11, 0), (13, 0)] true M (cP 8 (cP 8 (cP 8 M a0 11 (.int x1)) a0 12 (.int 0)) a0 13 (.int 0)) := hx.putI 13 ho3 (by decide) (by decide)
  exact Ext.trans hM hx (xw_Ma_goOnFor_17 cs lim dE n (cP 8 (cP 8 (cP 8 M a0 11 (.int x1)) a0 12 (.int 0)) a0 13 (.int 0)) a0 x1 0 Fv hx.ok hS hF)
theorem x_N_function (cs : Nat → ClassId) (lim : Nat × Nat) (n : Nat) (M : gMem) (a0 : Nat) (x1 : Int32) (x2 : Int32) (x3 : Int32) (hM : MOk M) (hS : S_N_function cs lim n M a0 x1 x2 x3) : Ext [(1, 4), (2, 0)] [(2, 0)] true M ((F_N_function cs n M a0 x1 x2 x3).2.2) := by
  generalize hF : F_N_function cs n M a0 x1 x2 x3 = Fv
  unfold F_N_function at hF
  unfold S_N_function at hS
  have hx : Ext [(1, 4), (2, 0)] [(2, 0)] true M M := Ext.rf hM
  obtain ⟨ho1, hS⟩ := hS
  obtain ⟨hs2, hS⟩ := hS
  rw [mbind_eq] at hF hS
  generalize hq_w3 : F_N_needType cs M a0 x1 = w3 at hF hS
  by_cases h04 : w3 = 0
  · rw [if_pos h04] at hF hS
    obtain ⟨ho5, hS⟩ := hS
    obtain ⟨hs6, hS⟩ := hS
    rw [mbind_eq] at hF hS
    generalize hq_w7 : F_N_needType cs M a0 x2 = w7 at hF hS
    by_cases h08 : w7 = 0
    · rw [if_pos h08] at hF hS
      obtain ⟨hs9, hS⟩ := hS
      rw [mbind_eq] at hF hS
      generalize hq_w10 : F_N_needRow cs M x3 = w10 at hF hS
      by_cases h011 : w10 = 0
      · rw [if_pos h011] at hF hS
        obtain ⟨ho12, hS⟩ := hS
        obtain ⟨ho13, hS⟩ := hS
        obtain ⟨hs14, hS⟩ := hS
        rw [mbind_eq] at hF hS
        generalize hq_w15 : F_Ty_find cs n M ((cQ M a0 0).getD 0) x1 x2 x3 = w15 at hF hS
        by_cases hc16 : w15 = (-1)
        · rw [if_pos hc16] at hF hS
          obtain ⟨ho17, hS⟩ := hS
          obtain ⟨ho18, hS⟩ := hS
          obtain ⟨hs19, hS⟩ := hS
          rw [mbind_eq] at hF hS
          generalize hq_w20 : F_Ty_functions cs M ((cQ M a0 0).getD 0)  = w20 at hF hS
          by_cases hc21 : w20 < 60
          · rw [if_pos hc21] at hF hS
            obtain ⟨ho22, hS⟩ := hS
            obtain ⟨ho23, hS⟩ := hS
            obtain ⟨hs24, hS⟩ := hS
            rw [mbind_eq] at hF hS
            replace hx := Ext.then hM hx (x_Ty_numberOf cs lim n _ ((cQ M a0 0).getD 0) x1 x2 x3 hx.ok hs24) (by decide) (by decide) (by decide)
            generalize F_Ty_numberOf cs n M ((cQ M a0 0).getD 0) x1 x2 x3 = w25 at hF hS hx
            subst hF
            exact hx
          · rw [if_neg hc21] at hF hS
            obtain ⟨hl26, hS⟩ := hS
            subst hF
            exact hx.xgsk
        · rw [if_neg hc16] at hF hS
          subst hF
          exact hx
      · rw [if_neg h011] at hF
        subst hF
        exact hx.xgsk
    · rw [if_neg h08] at hF
      subst hF
      exact hx.xgsk
  · rw [if_neg h04] at hF
    subst hF
    exact hx.xgsk
theorem x_N_effect (cs : Nat → ClassId) (lim : Nat × Nat) (M : gMem) (a0 : Nat) (x1 : Int32) (x2 : Int32) (x3 : Int32) (hM : MOk M) (hS : S_N_effect cs lim M a0 x1 x2 x3) : Ext [] [(0, 2), (0, 3)] true M ((F_N_effect cs M a0 x1 x2 x3).2) := by
  generalize hF : F_N_effect cs M a0 x1 x2 x3 = Fv
  unfold F_N_effect at hF
  unfold S_N_effect at hS
  have hx : Ext [] [(0, 2), (0, 3)] true M M := Ext.rf hM
  obtain ⟨hs1, hS⟩ := hS
  rw [mbind_eq] at hF hS
  generalize hq_w2 : F_N_needEffect cs M x1 = w2 at hF hS
  by_cases h03 : w2 = 0
  · rw [if_pos h03] at hF hS
    obtain ⟨ho4, hS⟩ := hS
    obtain ⟨hs5, hS⟩ := hS
    rw [mbind_eq] at hF hS
    generalize hq_w6 : F_N_needType cs M a0 x2 = w6 at hF hS
    by_cases h07 : w6 = 0
    · rw [if_pos h07] at hF hS
      obtain ⟨ho8, hS⟩ := hS
      obtain ⟨hs9, hS⟩ := hS
      rw [mbind_eq] at hF hS
      generalize hq_w10 : F_N_needType cs M a0 x3 = w10 at hF hS
      by_cases h011 : w10 = 0
      · rw [if_pos h011] at hF hS
        obtain ⟨ho12, hS⟩ := hS
        obtain ⟨ha13, hS⟩ := hS
        obtain ⟨hi14, hS⟩ := hS
        replace hx : Ext [] [(0, 2), (0, 3)] true M (aPi (cs 0) M ((cQ M a0 2).getD 0) x1.toNatClampNeg x2) := Ext.arrI hM hx ha13.2 (Or.inr (V_of (by decide) (by decide) ho12 ha13.1))
        obtain ⟨ho15, hS⟩ := hS
        obtain ⟨ha16, hS⟩ := hS
        obtain ⟨hi17, hS⟩ := hS
        replace hx : Ext [] [(0, 2), (0, 3)] true M (aPi (cs 0) (aPi (cs 0) M ((cQ M a0 2).getD 0) x1.toNatClampNeg x2) ((cQ (aPi (cs 0) M ((cQ M a0 2).getD 0) x1.toNatClampNeg x2) a0 3).getD 0) x1.toNatClampNeg x3) := Ext.arrI hM hx ha16.2 (Or.inr (V_of (by decide) (by decide) ho15 ha16.1))
        subst hF
        exact hx
      · rw [if_neg h011] at hF
        subst hF
        exact hx.xgsk
    · rw [if_neg h07] at hF
      subst hF
      exact hx.xgsk
  · rw [if_neg h03] at hF
    subst hF
    exact hx.xgsk
theorem x_N_atom (cs : Nat → ClassId) (lim : Nat × Nat) (n : Nat) (M : gMem) (a0 : Nat) (x1 : Int32) (x2 : Int32) (hM : MOk M) (hS : S_N_atom cs lim n M a0 x1 x2) : Ext [(3, 4), (4, 0), (4, 1), (4, 2), (4, 3), (4, 4), (4, 5), (4, 6), (4, 9), (4, 10)] [(3, 0)] true M ((F_N_atom cs n M a0 x1 x2).2.2) := by
  generalize hF : F_N_atom cs n M a0 x1 x2 = Fv
  unfold F_N_atom at hF
  unfold S_N_atom at hS
  have hx : Ext [(3, 4), (4, 0), (4, 1), (4, 2), (4, 3), (4, 4), (4, 5), (4, 6), (4, 9), (4, 10)] [(3, 0)] true M M := Ext.rf hM
  by_cases hc1 : x1 < 0
  · rw [if_pos hc1] at hF hS
    obtain ⟨hl2, hS⟩ := hS
    subst hF
    exact hx.xgsk
  · rw [if_neg hc1] at hF hS
    by_cases hc3 : x1 ≤ 3
    · rw [if_pos hc3] at hF hS
      by_cases hc4 : x1 = 1
      · rw [if_pos hc4] at hF hS
        by_cases hc45 : x2 = 0
        · rw [if_pos hc45] at hF hS
          by_cases hc46 : x1 = 3
          · rw [if_pos hc46] at hF hS
            obtain ⟨hs65, hS⟩ := hS
            rw [mbind_eq] at hF hS
            generalize hq_w66 : F_N_needName cs M x2 = w66 at hF hS
            by_cases h067 : w66 = 0
            · rw [if_pos h067] at hF hS
              obtain ⟨ho68, hS⟩ := hS
              obtain ⟨hs69, hS⟩ := hS
              rw [mbind_eq] at hF hS
              generalize hq_w70 : F_N_needRoom cs M a0  = w70 at hF hS
              by_cases h071 : w70 = 0
              · rw [if_pos h071] at hF hS
                obtain ⟨hl72, hS⟩ := hS
                replace hx : Ext [(3, 4), (4, 0), (4, 1), (4, 2), (4, 3), (4, 4), (4, 5), (4, 6), (4, 9), (4, 10)] [(3, 0)] true M (gnw M (1, .inr (4, [.int 0, .int 0, .int 0, .int 0, .int 0, .int 0, .int 0, .int 0, .int 0, .int 0, .int 0])) 11) := hx.newO (by decide)
                obtain ⟨hs73, hS⟩ := hS
                rw [mbind_eq] at hF hS
                replace hx := Ext.then hM hx (x_No_init cs lim _ M.2.1 x1 hx.ok hs73) (by decide) (by decide) (by decide)
                generalize F_No_init cs (gnw M (1, .inr (4, [.int 0, .int 0, .int 0, .int 0, .int 0, .int 0, .int 0, .int 0, .int 0, .int 0, .int 0])) 11) M.2.1 x1 = w74 at hF hS hx
                by_cases hc75 : x1 = 2
                · rw [if_pos hc75] at hF hS
                  obtain ⟨ho81, hS⟩ := hS
                  replace hx : Ext [(3, 4), (4, 0), (4, 1), (4, 2), (4, 3), (4, 4), (4, 5), (4, 6), (4, 9), (4, 10)] [(3, 0)] true M (cP 4 w74 M.2.1 1 (.int 0)) := hx.putI 1 ho81 (by decide) (by decide)
                  obtain ⟨ho82, hS⟩ := hS
                  obtain ⟨ho83, hS⟩ := hS
                  obtain ⟨hs84, hS⟩ := hS
                  rw [mbind_eq] at hF hS
                  replace hx := Ext.then hM hx (x_Ns_add cs lim n _ ((cQ (cP 4 w74 M.2.1 1 (.int 0)) a0 1).getD 0) (some M.2.1) hx.ok hs84) (by decide) (by decide) (by decide)
                  generalize F_Ns_add cs n (cP 4 w74 M.2.1 1 (.int 0)) ((cQ (cP 4 w74 M.2.1 1 (.int 0)) a0 1).getD 0) (some M.2.1) = w85 at hF hS hx
                  subst hF
                  exact hx
                · rw [if_neg hc75] at hF hS
                  obtain ⟨ho76, hS⟩ := hS
                  replace hx : Ext [(3, 4), (4, 0), (4, 1), (4, 2), (4, 3), (4, 4), (4, 5), (4, 6), (4, 9), (4, 10)] [(3, 0)] true M (cP 4 w74 M.2.1 1 (.int x2)) := hx.putI 1 ho76 (by decide) (by decide)
                  obtain ⟨ho77, hS⟩ := hS
                  obtain ⟨ho78, hS⟩ := hS
                  obtain ⟨hs79, hS⟩ := hS
                  rw [mbind_eq] at hF hS
                  replace hx := Ext.then hM hx (x_Ns_add cs lim n _ ((cQ (cP 4 w74 M.2.1 1 (.int x2)) a0 1).getD 0) (some M.2.1) hx.ok hs79) (by decide) (by decide) (by decide)
                  generalize F_Ns_add cs n (cP 4 w74 M.2.1 1 (.int x2)) ((cQ (cP 4 w74 M.2.1 1 (.int x2)) a0 1).getD 0) (some M.2.1) = w80 at hF hS hx
                  subst hF
                  exact hx
              · rw [if_neg h071] at hF
                subst hF
                exact hx.xgsk
            · rw [if_neg h067] at hF
              subst hF
              exact hx.xgsk
          · rw [if_neg hc46] at hF hS
            obtain ⟨ho47, hS⟩ := hS
            obtain ⟨hs48, hS⟩ := hS
            rw [mbind_eq] at hF hS
            generalize hq_w49 : F_N_needRoom cs M a0  = w49 at hF hS
            by_cases h050 : w49 = 0
            · rw [if_pos h050] at hF hS
              obtain ⟨hl51, hS⟩ := hS
              replace hx : Ext [(3, 4), (4, 0), (4, 1), (4, 2), (4, 3), (4, 4), (4, 5), (4, 6), (4, 9), (4, 10)] [(3, 0)] true M (gnw M (1, .inr (4, [.int 0, .int 0, .int 0, .int 0, .int 0, .int 0, .int 0, .int 0, .int 0, .int 0, .int 0])) 11) := hx.newO (by decide)
              obtain ⟨hs52, hS⟩ := hS
              rw [mbind_eq] at hF hS
              replace hx := Ext.then hM hx (x_No_init cs lim _ M.2.1 x1 hx.ok hs52) (by decide) (by decide) (by decide)
              generalize F_No_init cs (gnw M (1, .inr (4, [.int 0, .int 0, .int 0, .int 0, .int 0, .int 0, .int 0, .int 0, .int 0, .int 0, .int 0])) 11) M.2.1 x1 = w53 at hF hS hx
              by_cases hc54 : x1 = 2
              · rw [if_pos hc54] at hF hS
                obtain ⟨ho60, hS⟩ := hS
                replace hx : Ext [(3, 4), (4, 0), (4, 1), (4, 2), (4, 3), (4, 4), (4, 5), (4, 6), (4, 9), (4, 10)] [(3, 0)] true M (cP 4 w53 M.2.1 1 (.int 0)) := hx.putI 1 ho60 (by decide) (by decide)
                obtain ⟨ho61, hS⟩ := hS
                obtain ⟨ho62, hS⟩ := hS
                obtain ⟨hs63, hS⟩ := hS
                rw [mbind_eq] at hF hS
                replace hx := Ext.then hM hx (x_Ns_add cs lim n _ ((cQ (cP 4 w53 M.2.1 1 (.int 0)) a0 1).getD 0) (some M.2.1) hx.ok hs63) (by decide) (by decide) (by decide)
                generalize F_Ns_add cs n (cP 4 w53 M.2.1 1 (.int 0)) ((cQ (cP 4 w53 M.2.1 1 (.int 0)) a0 1).getD 0) (some M.2.1) = w64 at hF hS hx
                subst hF
                exact hx
              · rw [if_neg hc54] at hF hS
                obtain ⟨ho55, hS⟩ := hS
                replace hx : Ext [(3, 4), (4, 0), (4, 1), (4, 2), (4, 3), (4, 4), (4, 5), (4, 6), (4, 9), (4, 10)] [(3, 0)] true M (cP 4 w53 M.2.1 1 (.int x2)) := hx.putI 1 ho55 (by decide) (by decide)
                obtain ⟨ho56, hS⟩ := hS
                obtain ⟨ho57, hS⟩ := hS
                obtain ⟨hs58, hS⟩ := hS
                rw [mbind_eq] at hF hS
                replace hx := Ext.then hM hx (x_Ns_add cs lim n _ ((cQ (cP 4 w53 M.2.1 1 (.int x2)) a0 1).getD 0) (some M.2.1) hx.ok hs58) (by decide) (by decide) (by decide)
                generalize F_Ns_add cs n (cP 4 w53 M.2.1 1 (.int x2)) ((cQ (cP 4 w53 M.2.1 1 (.int x2)) a0 1).getD 0) (some M.2.1) = w59 at hF hS hx
                subst hF
                exact hx
            · rw [if_neg h050] at hF
              subst hF
              exact hx.xgsk
        · rw [if_neg hc45] at hF hS
          by_cases hc86 : x2 = 1
          · rw [if_pos hc86] at hF hS
            by_cases hc87 : x1 = 3
            · rw [if_pos hc87] at hF hS
              obtain ⟨hs106, hS⟩ := hS
              rw [mbind_eq] at hF hS
              generalize hq_w107 : F_N_needName cs M x2 = w107 at hF hS
              by_cases h0108 : w107 = 0
              · rw [if_pos h0108] at hF hS
                obtain ⟨ho109, hS⟩ := hS
                obtain ⟨hs110, hS⟩ := hS
                rw [mbind_eq] at hF hS
                generalize hq_w111 : F_N_needRoom cs M a0  = w111 at hF hS
                by_cases h0112 : w111 = 0
                · rw [if_pos h0112] at hF hS
                  obtain ⟨hl113, hS⟩ := hS
                  replace hx : Ext [(3, 4), (4, 0), (4, 1), (4, 2), (4, 3), (4, 4), (4, 5), (4, 6), (4, 9), (4, 10)] [(3, 0)] true M (gnw M (1, .inr (4, [.int 0, .int 0, .int 0, .int 0, .int 0, .int 0, .int 0, .int 0, .int 0, .int 0, .int 0])) 11) := hx.newO (by decide)
                  obtain ⟨hs114, hS⟩ := hS
                  rw [mbind_eq] at hF hS
                  replace hx := Ext.then hM hx (x_No_init cs lim _ M.2.1 x1 hx.ok hs114) (by decide) (by decide) (by decide)
                  generalize F_No_init cs (gnw M (1, .inr (4, [.int 0, .int 0, .int 0, .int 0, .int 0, .int 0, .int 0, .int 0, .int 0, .int 0, .int 0])) 11) M.2.1 x1 = w115 at hF hS hx
                  by_cases hc116 : x1 = 2
                  · rw [if_pos hc116] at hF hS
                    obtain ⟨ho122, hS⟩ := hS
                    replace hx : Ext [(3, 4), (4, 0), (4, 1), (4, 2), (4, 3), (4, 4), (4, 5), (4, 6), (4, 9), (4, 10)] [(3, 0)] true M (cP 4 w115 M.2.1 1 (.int 0)) := hx.putI 1 ho122 (by decide) (by decide)
                    obtain ⟨ho123, hS⟩ := hS
                    obtain ⟨ho124, hS⟩ := hS
                    obtain ⟨hs125, hS⟩ := hS
                    rw [mbind_eq] at hF hS
                    replace hx := Ext.then hM hx (x_Ns_add cs lim n _ ((cQ (cP 4 w115 M.2.1 1 (.int 0)) a0 1).getD 0) (some M.2.1) hx.ok hs125) (by decide) (by decide) (by decide)
                    generalize F_Ns_add cs n (cP 4 w115 M.2.1 1 (.int 0)) ((cQ (cP 4 w115 M.2.1 1 (.int 0)) a0 1).getD 0) (some M.2.1) = w126 at hF hS hx
                    subst hF
                    exact hx
                  · rw [if_neg hc116] at hF hS
                    obtain ⟨ho117, hS⟩ := hS
                    replace hx : Ext [(3, 4), (4, 0), (4, 1), (4, 2), (4, 3), (4, 4), (4, 5), (4, 6), (4, 9), (4, 10)] [(3, 0)] true M (cP 4 w115 M.2.1 1 (.int x2)) := hx.putI 1 ho117 (by decide) (by decide)
                    obtain ⟨ho118, hS⟩ := hS
                    obtain ⟨ho119, hS⟩ := hS
                    obtain ⟨hs120, hS⟩ := hS
                    rw [mbind_eq] at hF hS
                    replace hx := Ext.then hM hx (x_Ns_add cs lim n _ ((cQ (cP 4 w115 M.2.1 1 (.int x2)) a0 1).getD 0) (some M.2.1) hx.ok hs120) (by decide) (by decide) (by decide)
                    generalize F_Ns_add cs n (cP 4 w115 M.2.1 1 (.int x2)) ((cQ (cP 4 w115 M.2.1 1 (.int x2)) a0 1).getD 0) (some M.2.1) = w121 at hF hS hx
                    subst hF
                    exact hx
                · rw [if_neg h0112] at hF
                  subst hF
                  exact hx.xgsk
              · rw [if_neg h0108] at hF
                subst hF
                exact hx.xgsk
            · rw [if_neg hc87] at hF hS
              obtain ⟨ho88, hS⟩ := hS
              obtain ⟨hs89, hS⟩ := hS
              rw [mbind_eq] at hF hS
              generalize hq_w90 : F_N_needRoom cs M a0  = w90 at hF hS
              by_cases h091 : w90 = 0
              · rw [if_pos h091] at hF hS
                obtain ⟨hl92, hS⟩ := hS
                replace hx : Ext [(3, 4), (4, 0), (4, 1), (4, 2), (4, 3), (4, 4), (4, 5), (4, 6), (4, 9), (4, 10)] [(3, 0)] true M (gnw M (1, .inr (4, [.int 0, .int 0, .int 0, .int 0, .int 0, .int 0, .int 0, .int 0, .int 0, .int 0, .int 0])) 11) := hx.newO (by decide)
                obtain ⟨hs93, hS⟩ := hS
                rw [mbind_eq] at hF hS
                replace hx := Ext.then hM hx (x_No_init cs lim _ M.2.1 x1 hx.ok hs93) (by decide) (by decide) (by decide)
                generalize F_No_init cs (gnw M (1, .inr (4, [.int 0, .int 0, .int 0, .int 0, .int 0, .int 0, .int 0, .int 0, .int 0, .int 0, .int 0])) 11) M.2.1 x1 = w94 at hF hS hx
                by_cases hc95 : x1 = 2
                · rw [if_pos hc95] at hF hS
                  obtain ⟨ho101, hS⟩ := hS
                  replace hx : Ext [(3, 4), (4, 0), (4, 1), (4, 2), (4, 3), (4, 4), (4, 5), (4, 6), (4, 9), (4, 10)] [(3, 0)] true M (cP 4 w94 M.2.1 1 (.int 0)) := hx.putI 1 ho101 (by decide) (by decide)
                  obtain ⟨ho102, hS⟩ := hS
                  obtain ⟨ho103, hS⟩ := hS
                  obtain ⟨hs104, hS⟩ := hS
                  rw [mbind_eq] at hF hS
                  replace hx := Ext.then hM hx (x_Ns_add cs lim n _ ((cQ (cP 4 w94 M.2.1 1 (.int 0)) a0 1).getD 0) (some M.2.1) hx.ok hs104) (by decide) (by decide) (by decide)
                  generalize F_Ns_add cs n (cP 4 w94 M.2.1 1 (.int 0)) ((cQ (cP 4 w94 M.2.1 1 (.int 0)) a0 1).getD 0) (some M.2.1) = w105 at hF hS hx
                  subst hF
                  exact hx
                · rw [if_neg hc95] at hF hS
                  obtain ⟨ho96, hS⟩ := hS
                  replace hx : Ext [(3, 4), (4, 0), (4, 1), (4, 2), (4, 3), (4, 4), (4, 5), (4, 6), (4, 9), (4, 10)] [(3, 0)] true M (cP 4 w94 M.2.1 1 (.int x2)) := hx.putI 1 ho96 (by decide) (by decide)
                  obtain ⟨ho97, hS⟩ := hS
                  obtain ⟨ho98, hS⟩ := hS
                  obtain ⟨hs99, hS⟩ := hS
                  rw [mbind_eq] at hF hS
                  replace hx := Ext.then hM hx (x_Ns_add cs lim n _ ((cQ (cP 4 w94 M.2.1 1 (.int x2)) a0 1).getD 0) (some M.2.1) hx.ok hs99) (by decide) (by decide) (by decide)
                  generalize F_Ns_add cs n (cP 4 w94 M.2.1 1 (.int x2)) ((cQ (cP 4 w94 M.2.1 1 (.int x2)) a0 1).getD 0) (some M.2.1) = w100 at hF hS hx
                  subst hF
                  exact hx
              · rw [if_neg h091] at hF
                subst hF
                exact hx.xgsk
          · rw [if_neg hc86] at hF hS
            obtain ⟨hl127, hS⟩ := hS
            subst hF
            exact hx.xgsk
      · rw [if_neg hc4] at hF hS
        by_cases hc5 : x1 = 3
        · rw [if_pos hc5] at hF hS
          obtain ⟨hs24, hS⟩ := hS
          rw [mbind_eq] at hF hS
          generalize hq_w25 : F_N_needName cs M x2 = w25 at hF hS
          by_cases h026 : w25 = 0
          · rw [if_pos h026] at hF hS
            obtain ⟨ho27, hS⟩ := hS
            obtain ⟨hs28, hS⟩ := hS
            rw [mbind_eq] at hF hS
            generalize hq_w29 : F_N_needRoom cs M a0  = w29 at hF hS
            by_cases h030 : w29 = 0
            · rw [if_pos h030] at hF hS
              obtain ⟨hl31, hS⟩ := hS
              replace hx : Ext [(3, 4), (4, 0), (4, 1), (4, 2), (4, 3), (4, 4), (4, 5), (4, 6), (4, 9), (4, 10)] [(3, 0)] true M (gnw M (1, .inr (4, [.int 0, .int 0, .int 0, .int 0, .int 0, .int 0, .int 0, .int 0, .int 0, .int 0, .int 0])) 11) := hx.newO (by decide)
              obtain ⟨hs32, hS⟩ := hS
              rw [mbind_eq] at hF hS
              replace hx := Ext.then hM hx (x_No_init cs lim _ M.2.1 x1 hx.ok hs32) (by decide) (by decide) (by decide)
              generalize F_No_init cs (gnw M (1, .inr (4, [.int 0, .int 0, .int 0, .int 0, .int 0, .int 0, .int 0, .int 0, .int 0, .int 0, .int 0])) 11) M.2.1 x1 = w33 at hF hS hx
              by_cases hc34 : x1 = 2
              · rw [if_pos hc34] at hF hS
                obtain ⟨ho40, hS⟩ := hS
                replace hx : Ext [(3, 4), (4, 0), (4, 1), (4, 2), (4, 3), (4, 4), (4, 5), (4, 6), (4, 9), (4, 10)] [(3, 0)] true M (cP 4 w33 M.2.1 1 (.int 0)) := hx.putI 1 ho40 (by decide) (by decide)
                obtain ⟨ho41, hS⟩ := hS
                obtain ⟨ho42, hS⟩ := hS
                obtain ⟨hs43, hS⟩ := hS
                rw [mbind_eq] at hF hS
                replace hx := Ext.then hM hx (x_Ns_add cs lim n _ ((cQ (cP 4 w33 M.2.1 1 (.int 0)) a0 1).getD 0) (some M.2.1) hx.ok hs43) (by decide) (by decide) (by decide)
                generalize F_Ns_add cs n (cP 4 w33 M.2.1 1 (.int 0)) ((cQ (cP 4 w33 M.2.1 1 (.int 0)) a0 1).getD 0) (some M.2.1) = w44 at hF hS hx
                subst hF
                exact hx
              · rw [if_neg hc34] at hF hS
                obtain ⟨ho35, hS⟩ := hS
                replace hx : Ext [(3, 4), (4, 0), (4, 1), (4, 2), (4, 3), (4, 4), (4, 5), (4, 6), (4, 9), (4, 10)] [(3, 0)] true M (cP 4 w33 M.2.1 1 (.int x2)) := hx.putI 1 ho35 (by decide) (by decide)
                obtain ⟨ho36, hS⟩ := hS
                obtain ⟨ho37, hS⟩ := hS
                obtain ⟨hs38, hS⟩ := hS
                rw [mbind_eq] at hF hS
                replace hx := Ext.then hM hx (x_Ns_add cs lim n _ ((cQ (cP 4 w33 M.2.1 1 (.int x2)) a0 1).getD 0) (some M.2.1) hx.ok hs38) (by decide) (by decide) (by decide)
                generalize F_Ns_add cs n (cP 4 w33 M.2.1 1 (.int x2)) ((cQ (cP 4 w33 M.2.1 1 (.int x2)) a0 1).getD 0) (some M.2.1) = w39 at hF hS hx
                subst hF
                exact hx
            · rw [if_neg h030] at hF
              subst hF
              exact hx.xgsk
          · rw [if_neg h026] at hF
            subst hF
            exact hx.xgsk
        · rw [if_neg hc5] at hF hS
          obtain ⟨ho6, hS⟩ := hS
          obtain ⟨hs7, hS⟩ := hS
          rw [mbind_eq] at hF hS
          generalize hq_w8 : F_N_needRoom cs M a0  = w8 at hF hS
          by_cases h09 : w8 = 0
          · rw [if_pos h09] at hF hS
            obtain ⟨hl10, hS⟩ := hS
            replace hx : Ext [(3, 4), (4, 0), (4, 1), (4, 2), (4, 3), (4, 4), (4, 5), (4, 6), (4, 9), (4, 10)] [(3, 0)] true M (gnw M (1, .inr (4, [.int 0, .int 0, .int 0, .int 0, .int 0, .int 0, .int 0, .int 0, .int 0, .int 0, .int 0])) 11) := hx.newO (by decide)
            obtain ⟨hs11, hS⟩ := hS
            rw [mbind_eq] at hF hS
            replace hx := Ext.then hM hx (x_No_init cs lim _ M.2.1 x1 hx.ok hs11) (by decide) (by decide) (by decide)
            generalize F_No_init cs (gnw M (1, .inr (4, [.int 0, .int 0, .int 0, .int 0, .int 0, .int 0, .int 0, .int 0, .int 0, .int 0, .int 0])) 11) M.2.1 x1 = w12 at hF hS hx
            by_cases hc13 : x1 = 2
            · rw [if_pos hc13] at hF hS
              obtain ⟨ho19, hS⟩ := hS
              replace hx : Ext [(3, 4), (4, 0), (4, 1), (4, 2), (4, 3), (4, 4), (4, 5), (4, 6), (4, 9), (4, 10)] [(3, 0)] true M (cP 4 w12 M.2.1 1 (.int 0)) := hx.putI 1 ho19 (by decide) (by decide)
              obtain ⟨ho20, hS⟩ := hS
              obtain ⟨ho21, hS⟩ := hS
              obtain ⟨hs22, hS⟩ := hS
              rw [mbind_eq] at hF hS
              replace hx := Ext.then hM hx (x_Ns_add cs lim n _ ((cQ (cP 4 w12 M.2.1 1 (.int 0)) a0 1).getD 0) (some M.2.1) hx.ok hs22) (by decide) (by decide) (by decide)
              generalize F_Ns_add cs n (cP 4 w12 M.2.1 1 (.int 0)) ((cQ (cP 4 w12 M.2.1 1 (.int 0)) a0 1).getD 0) (some M.2.1) = w23 at hF hS hx
              subst hF
              exact hx
            · rw [if_neg hc13] at hF hS
              obtain ⟨ho14, hS⟩ := hS
              replace hx : Ext [(3, 4), (4, 0), (4, 1), (4, 2), (4, 3), (4, 4), (4, 5), (4, 6), (4, 9), (4, 10)] [(3, 0)] true M (cP 4 w12 M.2.1 1 (.int x2)) := hx.putI 1 ho14 (by decide) (by decide)
              obtain ⟨ho15, hS⟩ := hS
              obtain ⟨ho16, hS⟩ := hS
              obtain ⟨hs17, hS⟩ := hS
              rw [mbind_eq] at hF hS
              replace hx := Ext.then hM hx (x_Ns_add cs lim n _ ((cQ (cP 4 w12 M.2.1 1 (.int x2)) a0 1).getD 0) (some M.2.1) hx.ok hs17) (by decide) (by decide) (by decide)
              generalize F_Ns_add cs n (cP 4 w12 M.2.1 1 (.int x2)) ((cQ (cP 4 w12 M.2.1 1 (.int x2)) a0 1).getD 0) (some M.2.1) = w18 at hF hS hx
              subst hF
              exact hx
          · rw [if_neg h09] at hF
            subst hF
            exact hx.xgsk
    · rw [if_neg hc3] at hF hS
      obtain ⟨hl128, hS⟩ := hS
      subst hF
      exact hx.xgsk
theorem x_N_let (cs : Nat → ClassId) (lim : Nat × Nat) (n : Nat) (M : gMem) (a0 : Nat) (x1 : Int32) (x2 : Int32) (x3 : Int32) (hM : MOk M) (hS : S_N_let cs lim n M a0 x1 x2 x3) : Ext [(3, 4), (4, 0), (4, 2), (4, 3), (4, 4), (4, 5), (4, 6), (4, 9), (4, 10)] [(3, 0)] true M ((F_N_let cs n M a0 x1 x2 x3).2.2) := by
  generalize hF : F_N_let cs n M a0 x1 x2 x3 = Fv
  unfold F_N_let at hF
  unfold S_N_let at hS
  have hx : Ext [(3, 4), (4, 0), (4, 2), (4, 3), (4, 4), (4, 5), (4, 6), (4, 9), (4, 10)] [(3, 0)] true M M := Ext.rf hM
  obtain ⟨hs1, hS⟩ := hS
  rw [mbind_eq] at hF hS
  generalize hq_w2 : F_N_needName cs M x1 = w2 at hF hS
  by_cases h03 : w2 = 0
  · rw [if_pos h03] at hF hS
    obtain ⟨ho4, hS⟩ := hS
    obtain ⟨hs5, hS⟩ := hS
    rw [mbind_eq] at hF hS
    generalize hq_w6 : F_N_needNode cs M a0 x2 = w6 at hF hS
    by_cases h07 : w6 = 0
    · rw [if_pos h07] at hF hS
      obtain ⟨ho8, hS⟩ := hS
      obtain ⟨hs9, hS⟩ := hS
      rw [mbind_eq] at hF hS
      generalize hq_w10 : F_N_needNode cs M a0 x3 = w10 at hF hS
      by_cases h011 : w10 = 0
      · rw [if_pos h011] at hF hS
        obtain ⟨ho12, hS⟩ := hS
        obtain ⟨hs13, hS⟩ := hS
        rw [mbind_eq] at hF hS
        generalize hq_w14 : F_N_needRoom cs M a0  = w14 at hF hS
        by_cases h015 : w14 = 0
        · rw [if_pos h015] at hF hS
          obtain ⟨hl16, hS⟩ := hS
          replace hx : Ext [(3, 4), (4, 0), (4, 2), (4, 3), (4, 4), (4, 5), (4, 6), (4, 9), (4, 10)] [(3, 0)] true M (gnw M (1, .inr (4, [.int 0, .int 0, .int 0, .int 0, .int 0, .int 0, .int 0, .int 0, .int 0, .int 0, .int 0])) 11) := hx.newO (by decide)
          obtain ⟨hs17, hS⟩ := hS
          rw [mbind_eq] at hF hS
          replace hx := Ext.then hM hx (x_No_init cs lim _ M.2.1 4 hx.ok hs17) (by decide) (by decide) (by decide)
          generalize F_No_init cs (gnw M (1, .inr (4, [.int 0, .int 0, .int 0, .int 0, .int 0, .int 0, .int 0, .int 0, .int 0, .int 0, .int 0])) 11) M.2.1 4 = w18 at hF hS hx
          obtain ⟨ho19, hS⟩ := hS
          replace hx : Ext [(3, 4), (4, 0), (4, 2), (4, 3), (4, 4), (4, 5), (4, 6), (4, 9), (4, 10)] [(3, 0)] true M (cP 4 w18 M.2.1 2 (.int x1)) := hx.putI 2 ho19 (by decide) (by decide)
          obtain ⟨ho20, hS⟩ := hS
          replace hx : Ext [(3, 4), (4, 0), (4, 2), (4, 3), (4, 4), (4, 5), (4, 6), (4, 9), (4, 10)] [(3, 0)] true M (cP 4 (cP 4 w18 M.2.1 2 (.int x1)) M.2.1 4 (.int x2)) := hx.putI 4 ho20 (by decide) (by decide)
          obtain ⟨ho21, hS⟩ := hS
          replace hx : Ext [(3, 4), (4, 0), (4, 2), (4, 3), (4, 4), (4, 5), (4, 6), (4, 9), (4, 10)] [(3, 0)] true M (cP 4 (cP 4 (cP 4 w18 M.2.1 2 (.int x1)) M.2.1 4 (.int x2)) M.2.1 5 (.int x3)) := hx.putI 5 ho21 (by decide) (by decide)
          obtain ⟨ho22, hS⟩ := hS
          obtain ⟨ho23, hS⟩ := hS
          obtain ⟨hs24, hS⟩ := hS
          rw [mbind_eq] at hF hS
          replace hx := Ext.then hM hx (x_Ns_add cs lim n _ ((cQ (cP 4 (cP 4 (cP 4 w18 M.2.1 2 (.int x1)) M.2.1 4 (.int x2)) M.2.1 5 (.int x3)) a0 1).getD 0) (some M.2.1) hx.ok hs24) (by decide) (by decide) (by decide)
          generalize F_Ns_add cs n (cP 4 (cP 4 (cP 4 w18 M.2.1 2 (.int x1)) M.2.1 4 (.int x2)) M.2.1 5 (.int x3)) ((cQ (cP 4 (cP 4 (cP 4 w18 M.2.1 2 (.int x1)) M.2.1 4 (.int x2)) M.2.1 5 (.int x3)) a0 1).getD 0) (some M.2.1) = w25 at hF hS hx
          subst hF
          exact hx
        · rw [if_neg h015] at hF
          subst hF
          exact hx.xgsk
      · rw [if_neg h011] at hF
        subst hF
        exact hx.xgsk
    · rw [if_neg h07] at hF
      subst hF
      exact hx.xgsk
  · rw [if_neg h03] at hF
    subst hF
    exact hx.xgsk
theorem x_N_rec (cs : Nat → ClassId) (lim : Nat × Nat) (n : Nat) (M : gMem) (a0 : Nat) (x1 : Int32) (x2 : Int32) (x3 : Int32) (x4 : Int32) (x5 : Int32) (hM : MOk M) (hS : S_N_rec cs lim n M a0 x1 x2 x3 x4 x5) : Ext [(3, 4), (4, 0), (4, 1), (4, 2), (4, 3), (4, 4), (4, 5), (4, 6), (4, 9), (4, 10)] [(3, 0)] true M ((F_N_rec cs n M a0 x1 x2 x3 x4 x5).2.2) := by
  generalize hF : F_N_rec cs n M a0 x1 x2 x3 x4 x5 = Fv
  unfold F_N_rec at hF
  unfold S_N_rec at hS
  have hx : Ext [(3, 4), (4, 0), (4, 1), (4, 2), (4, 3), (4, 4), (4, 5), (4, 6), (4, 9), (4, 10)] [(3, 0)] true M M := Ext.rf hM
  obtain ⟨hs1, hS⟩ := hS
  rw [mbind_eq] at hF hS
  generalize hq_w2 : F_N_needName cs M x1 = w2 at hF hS
  by_cases h03 : w2 = 0
  · rw [if_pos h03] at hF hS
    obtain ⟨hs4, hS⟩ := hS
    rw [mbind_eq] at hF hS
    generalize hq_w5 : F_N_needName cs M x2 = w5 at hF hS
    by_cases h06 : w5 = 0
    · rw [if_pos h06] at hF hS
      obtain ⟨ho7, hS⟩ := hS
      obtain ⟨ho8, hS⟩ := hS
      obtain ⟨hs9, hS⟩ := hS
      rw [mbind_eq] at hF hS
      generalize hq_w10 : F_Ty_isFunction cs M ((cQ M a0 0).getD 0) x3 = w10 at hF hS
      by_cases hc11 : w10 = 0
      · rw [if_pos hc11] at hF hS
        obtain ⟨hl36, hS⟩ := hS
        subst hF
        exact hx.xgsk
      · rw [if_neg hc11] at hF hS
        obtain ⟨ho12, hS⟩ := hS
        obtain ⟨hs13, hS⟩ := hS
        rw [mbind_eq] at hF hS
        generalize hq_w14 : F_N_needNode cs M a0 x4 = w14 at hF hS
        by_cases h015 : w14 = 0
        · rw [if_pos h015] at hF hS
          obtain ⟨ho16, hS⟩ := hS
          obtain ⟨hs17, hS⟩ := hS
          rw [mbind_eq] at hF hS
          generalize hq_w18 : F_N_needNode cs M a0 x5 = w18 at hF hS
          by_cases h019 : w18 = 0
          · rw [if_pos h019] at hF hS
            obtain ⟨ho20, hS⟩ := hS
            obtain ⟨hs21, hS⟩ := hS
            rw [mbind_eq] at hF hS
            generalize hq_w22 : F_N_needRoom cs M a0  = w22 at hF hS
            by_cases h023 : w22 = 0
            · rw [if_pos h023] at hF hS
              obtain ⟨hl24, hS⟩ := hS
              replace hx : Ext [(3, 4), (4, 0), (4, 1), (4, 2), (4, 3), (4, 4), (4, 5), (4, 6), (4, 9), (4, 10)] [(3, 0)] true M (gnw M (1, .inr (4, [.int 0, .int 0, .int 0, .int 0, .int 0, .int 0, .int 0, .int 0, .int 0, .int 0, .int 0])) 11) := hx.newO (by decide)
              obtain ⟨hs25, hS⟩ := hS
              rw [mbind_eq] at hF hS
              replace hx := Ext.then hM hx (x_No_init cs lim _ M.2.1 5 hx.ok hs25) (by decide) (by decide) (by decide)
              generalize F_No_init cs (gnw M (1, .inr (4, [.int 0, .int 0, .int 0, .int 0, .int 0, .int 0, .int 0, .int 0, .int 0, .int 0, .int 0])) 11) M.2.1 5 = w26 at hF hS hx
              obtain ⟨ho27, hS⟩ := hS
              replace hx : Ext [(3, 4), (4, 0), (4, 1), (4, 2), (4, 3), (4, 4), (4, 5), (4, 6), (4, 9), (4, 10)] [(3, 0)] true M (cP 4 w26 M.2.1 3 (.int x1)) := hx.putI 3 ho27 (by decide) (by decide)
              obtain ⟨ho28, hS⟩ := hS
              replace hx : Ext [(3, 4), (4, 0), (4, 1), (4, 2), (4, 3), (4, 4), (4, 5), (4, 6), (4, 9), (4, 10)] [(3, 0)] true M (cP 4 (cP 4 w26 M.2.1 3 (.int x1)) M.2.1 2 (.int x2)) := hx.putI 2 ho28 (by decide) (by decide)
              obtain ⟨ho29, hS⟩ := hS
              replace hx : Ext [(3, 4), (4, 0), (4, 1), (4, 2), (4, 3), (4, 4), (4, 5), (4, 6), (4, 9), (4, 10)] [(3, 0)] true M (cP 4 (cP 4 (cP 4 w26 M.2.1 3 (.int x1)) M.2.1 2 (.int x2)) M.2.1 1 (.int x3)) := hx.putI 1 ho29 (by decide) (by decide)
              obtain ⟨ho30, hS⟩ := hS
              replace hx : Ext [(3, 4), (4, 0), (4, 1), (4, 2), (4, 3), (4, 4), (4, 5), (4, 6), (4, 9), (4, 10)] [(3, 0)] true M (cP 4 (cP 4 (cP 4 (cP 4 w26 M.2.1 3 (.int x1)) M.2.1 2 (.int x2)) M.2.1 1 (.int x3)) M.2.1 4 (.int x4)) := hx.putI 4 ho30 (by decide) (by decide)
              obtain ⟨ho31, hS⟩ := hS
              replace hx : Ext [(3, 4), (4, 0), (4, 1), (4, 2), (4, 3), (4, 4), (4, 5), (4, 6), (4, 9), (4, 10)] [(3, 0)] true M (cP 4 (cP 4 (cP 4 (cP 4 (cP 4 w26 M.2.1 3 (.int x1)) M.2.1 2 (.int x2)) M.2.1 1 (.int x3)) M.2.1 4 (.int x4)) M.2.1 5 (.int x5)) := hx.putI 5 ho31 (by decide) (by decide)
              obtain ⟨ho32, hS⟩ := hS
              obtain ⟨ho33, hS⟩ := hS
              obtain ⟨hs34, hS⟩ := hS
              rw [mbind_eq] at hF hS
              replace hx := Ext.then hM hx (x_Ns_add cs lim n _ ((cQ (cP 4 (cP 4 (cP 4 (cP 4 (cP 4 w26 M.2.1 3 (.int x1)) M.2.1 2 (.int x2)) M.2.1 1 (.int x3)) M.2.1 4 (.int x4)) M.2.1 5 (.int x5)) a0 1).getD 0) (some M.2.1) hx.ok hs34) (by decide) (by decide) (by decide)
              generalize F_Ns_add cs n (cP 4 (cP 4 (cP 4 (cP 4 (cP 4 w26 M.2.1 3 (.int x1)) M.2.1 2 (.int x2)) M.2.1 1 (.int x3)) M.2.1 4 (.int x4)) M.2.1 5 (.int x5)) ((cQ (cP 4 (cP 4 (cP 4 (cP 4 (cP 4 w26 M.2.1 3 (.int x1)) M.2.1 2 (.int x2)) M.2.1 1 (.int x3)) M.2.1 4 (.int x4)) M.2.1 5 (.int x5)) a0 1).getD 0) (some M.2.1) = w35 at hF hS hx
              subst hF
              exact hx
            · rw [if_neg h023] at hF
              subst hF
              exact hx.xgsk
          · rw [if_neg h019] at hF
            subst hF
            exact hx.xgsk
        · rw [if_neg h015] at hF
          subst hF
          exact hx.xgsk
    · rw [if_neg h06] at hF
      subst hF
      exact hx.xgsk
  · rw [if_neg h03] at hF
    subst hF
    exact hx.xgsk
theorem x_N_choice (cs : Nat → ClassId) (lim : Nat × Nat) (n : Nat) (M : gMem) (a0 : Nat) (x1 : Int32) (x2 : Int32) (x3 : Int32) (hM : MOk M) (hS : S_N_choice cs lim n M a0 x1 x2 x3) : Ext [(3, 4), (4, 0), (4, 2), (4, 3), (4, 4), (4, 5), (4, 6), (4, 9), (4, 10)] [(3, 0)] true M ((F_N_choice cs n M a0 x1 x2 x3).2.2) := by
  generalize hF : F_N_choice cs n M a0 x1 x2 x3 = Fv
  unfold F_N_choice at hF
  unfold S_N_choice at hS
  have hx : Ext [(3, 4), (4, 0), (4, 2), (4, 3), (4, 4), (4, 5), (4, 6), (4, 9), (4, 10)] [(3, 0)] true M M := Ext.rf hM
  obtain ⟨ho1, hS⟩ := hS
  obtain ⟨hs2, hS⟩ := hS
  rw [mbind_eq] at hF hS
  generalize hq_w3 : F_N_needNode cs M a0 x1 = w3 at hF hS
  by_cases h04 : w3 = 0
  · rw [if_pos h04] at hF hS
    obtain ⟨ho5, hS⟩ := hS
    obtain ⟨hs6, hS⟩ := hS
    rw [mbind_eq] at hF hS
    generalize hq_w7 : F_N_needNode cs M a0 x2 = w7 at hF hS
    by_cases h08 : w7 = 0
    · rw [if_pos h08] at hF hS
      obtain ⟨ho9, hS⟩ := hS
      obtain ⟨hs10, hS⟩ := hS
      rw [mbind_eq] at hF hS
      generalize hq_w11 : F_N_needNode cs M a0 x3 = w11 at hF hS
      by_cases h012 : w11 = 0
      · rw [if_pos h012] at hF hS
        obtain ⟨ho13, hS⟩ := hS
        obtain ⟨hs14, hS⟩ := hS
        rw [mbind_eq] at hF hS
        generalize hq_w15 : F_N_needRoom cs M a0  = w15 at hF hS
        by_cases h016 : w15 = 0
        · rw [if_pos h016] at hF hS
          obtain ⟨hl17, hS⟩ := hS
          replace hx : Ext [(3, 4), (4, 0), (4, 2), (4, 3), (4, 4), (4, 5), (4, 6), (4, 9), (4, 10)] [(3, 0)] true M (gnw M (1, .inr (4, [.int 0, .int 0, .int 0, .int 0, .int 0, .int 0, .int 0, .int 0, .int 0, .int 0, .int 0])) 11) := hx.newO (by decide)
          obtain ⟨hs18, hS⟩ := hS
          rw [mbind_eq] at hF hS
          replace hx := Ext.then hM hx (x_No_init cs lim _ M.2.1 6 hx.ok hs18) (by decide) (by decide) (by decide)
          generalize F_No_init cs (gnw M (1, .inr (4, [.int 0, .int 0, .int 0, .int 0, .int 0, .int 0, .int 0, .int 0, .int 0, .int 0, .int 0])) 11) M.2.1 6 = w19 at hF hS hx
          obtain ⟨ho20, hS⟩ := hS
          replace hx : Ext [(3, 4), (4, 0), (4, 2), (4, 3), (4, 4), (4, 5), (4, 6), (4, 9), (4, 10)] [(3, 0)] true M (cP 4 w19 M.2.1 4 (.int x1)) := hx.putI 4 ho20 (by decide) (by decide)
          obtain ⟨ho21, hS⟩ := hS
          replace hx : Ext [(3, 4), (4, 0), (4, 2), (4, 3), (4, 4), (4, 5), (4, 6), (4, 9), (4, 10)] [(3, 0)] true M (cP 4 (cP 4 w19 M.2.1 4 (.int x1)) M.2.1 5 (.int x2)) := hx.putI 5 ho21 (by decide) (by decide)
          obtain ⟨ho22, hS⟩ := hS
          replace hx : Ext [(3, 4), (4, 0), (4, 2), (4, 3), (4, 4), (4, 5), (4, 6), (4, 9), (4, 10)] [(3, 0)] true M (cP 4 (cP 4 (cP 4 w19 M.2.1 4 (.int x1)) M.2.1 5 (.int x2)) M.2.1 6 (.int x3)) := hx.putI 6 ho22 (by decide) (by decide)
          obtain ⟨ho23, hS⟩ := hS
          obtain ⟨ho24, hS⟩ := hS
          obtain ⟨hs25, hS⟩ := hS
          rw [mbind_eq] at hF hS
          replace hx := Ext.then hM hx (x_Ns_add cs lim n _ ((cQ (cP 4 (cP 4 (cP 4 w19 M.2.1 4 (.int x1)) M.2.1 5 (.int x2)) M.2.1 6 (.int x3)) a0 1).getD 0) (some M.2.1) hx.ok hs25) (by decide) (by decide) (by decide)
          generalize F_Ns_add cs n (cP 4 (cP 4 (cP 4 w19 M.2.1 4 (.int x1)) M.2.1 5 (.int x2)) M.2.1 6 (.int x3)) ((cQ (cP 4 (cP 4 (cP 4 w19 M.2.1 4 (.int x1)) M.2.1 5 (.int x2)) M.2.1 6 (.int x3)) a0 1).getD 0) (some M.2.1) = w26 at hF hS hx
          subst hF
          exact hx
        · rw [if_neg h016] at hF
          subst hF
          exact hx.xgsk
      · rw [if_neg h012] at hF
        subst hF
        exact hx.xgsk
    · rw [if_neg h08] at hF
      subst hF
      exact hx.xgsk
  · rw [if_neg h04] at hF
    subst hF
    exact hx.xgsk
theorem x_N_fn (cs : Nat → ClassId) (lim : Nat × Nat) (n : Nat) (M : gMem) (a0 : Nat) (x1 : Int32) (x2 : Int32) (x3 : Int32) (hM : MOk M) (hS : S_N_fn cs lim n M a0 x1 x2 x3) : Ext [(3, 4), (4, 0), (4, 1), (4, 2), (4, 3), (4, 4), (4, 5), (4, 6), (4, 9), (4, 10)] [(3, 0)] true M ((F_N_fn cs n M a0 x1 x2 x3).2.2) := by
  generalize hF : F_N_fn cs n M a0 x1 x2 x3 = Fv
  unfold F_N_fn at hF
  unfold S_N_fn at hS
  have hx : Ext [(3, 4), (4, 0), (4, 1), (4, 2), (4, 3), (4, 4), (4, 5), (4, 6), (4, 9), (4, 10)] [(3, 0)] true M M := Ext.rf hM
  obtain ⟨hs1, hS⟩ := hS
  rw [mbind_eq] at hF hS
  generalize hq_w2 : F_N_needName cs M x1 = w2 at hF hS
  by_cases h03 : w2 = 0
  · rw [if_pos h03] at hF hS
    obtain ⟨ho4, hS⟩ := hS
    obtain ⟨hs5, hS⟩ := hS
    rw [mbind_eq] at hF hS
    generalize hq_w6 : F_N_needType cs M a0 x2 = w6 at hF hS
    by_cases h07 : w6 = 0
    · rw [if_pos h07] at hF hS
      obtain ⟨ho8, hS⟩ := hS
      obtain ⟨hs9, hS⟩ := hS
      rw [mbind_eq] at hF hS
      generalize hq_w10 : F_N_needNode cs M a0 x3 = w10 at hF hS
      by_cases h011 : w10 = 0
      · rw [if_pos h011] at hF hS
        obtain ⟨ho12, hS⟩ := hS
        obtain ⟨hs13, hS⟩ := hS
        rw [mbind_eq] at hF hS
        generalize hq_w14 : F_N_needRoom cs M a0  = w14 at hF hS
        by_cases h015 : w14 = 0
        · rw [if_pos h015] at hF hS
          obtain ⟨hl16, hS⟩ := hS
          replace hx : Ext [(3, 4), (4, 0), (4, 1), (4, 2), (4, 3), (4, 4), (4, 5), (4, 6), (4, 9), (4, 10)] [(3, 0)] true M (gnw M (1, .inr (4, [.int 0, .int 0, .int 0, .int 0, .int 0, .int 0, .int 0, .int 0, .int 0, .int 0, .int 0])) 11) := hx.newO (by decide)
          obtain ⟨hs17, hS⟩ := hS
          rw [mbind_eq] at hF hS
          replace hx := Ext.then hM hx (x_No_init cs lim _ M.2.1 7 hx.ok hs17) (by decide) (by decide) (by decide)
          generalize F_No_init cs (gnw M (1, .inr (4, [.int 0, .int 0, .int 0, .int 0, .int 0, .int 0, .int 0, .int 0, .int 0, .int 0, .int 0])) 11) M.2.1 7 = w18 at hF hS hx
          obtain ⟨ho19, hS⟩ := hS
          replace hx : Ext [(3, 4), (4, 0), (4, 1), (4, 2), (4, 3), (4, 4), (4, 5), (4, 6), (4, 9), (4, 10)] [(3, 0)] true M (cP 4 w18 M.2.1 2 (.int x1)) := hx.putI 2 ho19 (by decide) (by decide)
          obtain ⟨ho20, hS⟩ := hS
          replace hx : Ext [(3, 4), (4, 0), (4, 1), (4, 2), (4, 3), (4, 4), (4, 5), (4, 6), (4, 9), (4, 10)] [(3, 0)] true M (cP 4 (cP 4 w18 M.2.1 2 (.int x1)) M.2.1 1 (.int x2)) := hx.putI 1 ho20 (by decide) (by decide)
          obtain ⟨ho21, hS⟩ := hS
          replace hx : Ext [(3, 4), (4, 0), (4, 1), (4, 2), (4, 3), (4, 4), (4, 5), (4, 6), (4, 9), (4, 10)] [(3, 0)] true M (cP 4 (cP 4 (cP 4 w18 M.2.1 2 (.int x1)) M.2.1 1 (.int x2)) M.2.1 4 (.int x3)) := hx.putI 4 ho21 (by decide) (by decide)
          obtain ⟨ho22, hS⟩ := hS
          obtain ⟨ho23, hS⟩ := hS
          obtain ⟨hs24, hS⟩ := hS
          rw [mbind_eq] at hF hS
          replace hx := Ext.then hM hx (x_Ns_add cs lim n _ ((cQ (cP 4 (cP 4 (cP 4 w18 M.2.1 2 (.int x1)) M.2.1 1 (.int x2)) M.2.1 4 (.int x3)) a0 1).getD 0) (some M.2.1) hx.ok hs24) (by decide) (by decide) (by decide)
          generalize F_Ns_add cs n (cP 4 (cP 4 (cP 4 w18 M.2.1 2 (.int x1)) M.2.1 1 (.int x2)) M.2.1 4 (.int x3)) ((cQ (cP 4 (cP 4 (cP 4 w18 M.2.1 2 (.int x1)) M.2.1 1 (.int x2)) M.2.1 4 (.int x3)) a0 1).getD 0) (some M.2.1) = w25 at hF hS hx
          subst hF
          exact hx
        · rw [if_neg h015] at hF
          subst hF
          exact hx.xgsk
      · rw [if_neg h011] at hF
        subst hF
        exact hx.xgsk
    · rw [if_neg h07] at hF
      subst hF
      exact hx.xgsk
  · rw [if_neg h03] at hF
    subst hF
    exact hx.xgsk
theorem x_N_clause (cs : Nat → ClassId) (lim : Nat × Nat) (M : gMem) (a0 : Nat) (x1 : Int32) (x2 : Int32) (x3 : Int32) (x4 : Int32) (hM : MOk M) (hS : S_N_clause cs lim M a0 x1 x2 x3 x4) : Ext [(3, 5), (5, 0), (5, 1), (5, 2), (5, 3)] [(3, 1)] true M ((F_N_clause cs M a0 x1 x2 x3 x4).2.2) := by
  generalize hF : F_N_clause cs M a0 x1 x2 x3 x4 = Fv
  unfold F_N_clause at hF
  unfold S_N_clause at hS
  have hx : Ext [(3, 5), (5, 0), (5, 1), (5, 2), (5, 3)] [(3, 1)] true M M := Ext.rf hM
  obtain ⟨hs1, hS⟩ := hS
  rw [mbind_eq] at hF hS
  generalize hq_w2 : F_N_needEffect cs M x1 = w2 at hF hS
  by_cases h03 : w2 = 0
  · rw [if_pos h03] at hF hS
    obtain ⟨hs4, hS⟩ := hS
    rw [mbind_eq] at hF hS
    generalize hq_w5 : F_N_needName cs M x2 = w5 at hF hS
    by_cases h06 : w5 = 0
    · rw [if_pos h06] at hF hS
      obtain ⟨hs7, hS⟩ := hS
      rw [mbind_eq] at hF hS
      generalize hq_w8 : F_N_needName cs M x3 = w8 at hF hS
      by_cases h09 : w8 = 0
      · rw [if_pos h09] at hF hS
        obtain ⟨ho10, hS⟩ := hS
        obtain ⟨hs11, hS⟩ := hS
        rw [mbind_eq] at hF hS
        generalize hq_w12 : F_N_needNode cs M a0 x4 = w12 at hF hS
        by_cases h013 : w12 = 0
        · rw [if_pos h013] at hF hS
          obtain ⟨ho14, hS⟩ := hS
          obtain ⟨ho15, hS⟩ := hS
          obtain ⟨hs16, hS⟩ := hS
          rw [mbind_eq] at hF hS
          generalize hq_w17 : F_Ns_hasRoomForClause cs M ((cQ M a0 1).getD 0)  = w17 at hF hS
          by_cases hc18 : w17 = 0
          · rw [if_pos hc18] at hF hS
            obtain ⟨hl26, hS⟩ := hS
            subst hF
            exact hx.xgsk
          · rw [if_neg hc18] at hF hS
            obtain ⟨ho19, hS⟩ := hS
            obtain ⟨hl20, hS⟩ := hS
            replace hx : Ext [(3, 5), (5, 0), (5, 1), (5, 2), (5, 3)] [(3, 1)] true M (gnw M (1, .inr (5, [.int 0, .int 0, .int 0, .int 0])) 4) := hx.newO (by decide)
            obtain ⟨hs21, hS⟩ := hS
            rw [mbind_eq] at hF hS
            replace hx := Ext.then hM hx (x_Cl_init cs lim _ M.2.1 x1 x2 x3 x4 hx.ok hs21) (by decide) (by decide) (by decide)
            generalize F_Cl_init cs (gnw M (1, .inr (5, [.int 0, .int 0, .int 0, .int 0])) 4) M.2.1 x1 x2 x3 x4 = w22 at hF hS hx
            obtain ⟨ho23, hS⟩ := hS
            obtain ⟨hs24, hS⟩ := hS
            rw [mbind_eq] at hF hS
            replace hx := Ext.then hM hx (x_Ns_makeReady cs lim _ ((cQ M a0 1).getD 0) (some M.2.1) hx.ok hs24) (by decide) (by decide) (by decide)
            generalize F_Ns_makeReady cs w22 ((cQ M a0 1).getD 0) (some M.2.1) = w25 at hF hS hx
            subst hF
            exact hx
        · rw [if_neg h013] at hF
          subst hF
          exact hx.xgsk
      · rw [if_neg h09] at hF
        subst hF
        exact hx.xgsk
    · rw [if_neg h06] at hF
      subst hF
      exact hx.xgsk
  · rw [if_neg h03] at hF
    subst hF
    exact hx.xgsk
theorem x_N_handle (cs : Nat → ClassId) (lim : Nat × Nat) (n : Nat) (M : gMem) (a0 : Nat) (x1 : Int32) (x2 : Int32) (x3 : Int32) (x4 : Int32) (hM : MOk M) (hS : S_N_handle cs lim n M a0 x1 x2 x3 x4) : Ext [(3, 4), (3, 6), (4, 0), (4, 1), (4, 2), (4, 3), (4, 4), (4, 5), (4, 6), (4, 7), (4, 8), (4, 9), (4, 10)] [(3, 0)] true M ((F_N_handle cs n M a0 x1 x2 x3 x4).2.2) := by
  generalize hF : F_N_handle cs n M a0 x1 x2 x3 x4 = Fv
  unfold F_N_handle at hF
  unfold S_N_handle at hS
  have hx : Ext [(3, 4), (3, 6), (4, 0), (4, 1), (4, 2), (4, 3), (4, 4), (4, 5), (4, 6), (4, 7), (4, 8), (4, 9), (4, 10)] [(3, 0)] true M M := Ext.rf hM
  obtain ⟨ho1, hS⟩ := hS
  obtain ⟨hs2, hS⟩ := hS
  rw [mbind_eq] at hF hS
  generalize hq_w3 : F_N_needNode cs M a0 x1 = w3 at hF hS
  by_cases h04 : w3 = 0
  · rw [if_pos h04] at hF hS
    obtain ⟨hs5, hS⟩ := hS
    rw [mbind_eq] at hF hS
    generalize hq_w6 : F_N_needRow cs M x2 = w6 at hF hS
    by_cases h07 : w6 = 0
    · rw [if_pos h07] at hF hS
      obtain ⟨hs8, hS⟩ := hS
      rw [mbind_eq] at hF hS
      generalize hq_w9 : F_N_needName cs M x3 = w9 at hF hS
      by_cases h010 : w9 = 0
      · rw [if_pos h010] at hF hS
        obtain ⟨ho11, hS⟩ := hS
        obtain ⟨hs12, hS⟩ := hS
        rw [mbind_eq] at hF hS
        generalize hq_w13 : F_N_needNode cs M a0 x4 = w13 at hF hS
        by_cases h014 : w13 = 0
        · rw [if_pos h014] at hF hS
          obtain ⟨ho15, hS⟩ := hS
          obtain ⟨hs16, hS⟩ := hS
          rw [mbind_eq] at hF hS
          generalize hq_w17 : F_N_needRoom cs M a0  = w17 at hF hS
          by_cases h018 : w17 = 0
          · rw [if_pos h018] at hF hS
            obtain ⟨hl19, hS⟩ := hS
            replace hx : Ext [(3, 4), (3, 6), (4, 0), (4, 1), (4, 2), (4, 3), (4, 4), (4, 5), (4, 6), (4, 7), (4, 8), (4, 9), (4, 10)] [(3, 0)] true M (gnw M (1, .inr (4, [.int 0, .int 0, .int 0, .int 0, .int 0, .int 0, .int 0, .int 0, .int 0, .int 0, .int 0])) 11) := hx.newO (by decide)
            obtain ⟨hs20, hS⟩ := hS
            rw [mbind_eq] at hF hS
            replace hx := Ext.then hM hx (x_No_init cs lim _ M.2.1 8 hx.ok hs20) (by decide) (by decide) (by decide)
            generalize F_No_init cs (gnw M (1, .inr (4, [.int 0, .int 0, .int 0, .int 0, .int 0, .int 0, .int 0, .int 0, .int 0, .int 0, .int 0])) 11) M.2.1 8 = w21 at hF hS hx
            obtain ⟨ho22, hS⟩ := hS
            replace hx : Ext [(3, 4), (3, 6), (4, 0), (4, 1), (4, 2), (4, 3), (4, 4), (4, 5), (4, 6), (4, 7), (4, 8), (4, 9), (4, 10)] [(3, 0)] true M (cP 4 w21 M.2.1 1 (.int x2)) := hx.putI 1 ho22 (by decide) (by decide)
            obtain ⟨ho23, hS⟩ := hS
            replace hx : Ext [(3, 4), (3, 6), (4, 0), (4, 1), (4, 2), (4, 3), (4, 4), (4, 5), (4, 6), (4, 7), (4, 8), (4, 9), (4, 10)] [(3, 0)] true M (cP 4 (cP 4 w21 M.2.1 1 (.int x2)) M.2.1 2 (.int x3)) := hx.putI 2 ho23 (by decide) (by decide)
            obtain ⟨ho24, hS⟩ := hS
            replace hx : Ext [(3, 4), (3, 6), (4, 0), (4, 1), (4, 2), (4, 3), (4, 4), (4, 5), (4, 6), (4, 7), (4, 8), (4, 9), (4, 10)] [(3, 0)] true M (cP 4 (cP 4 (cP 4 w21 M.2.1 1 (.int x2)) M.2.1 2 (.int x3)) M.2.1 4 (.int x1)) := hx.putI 4 ho24 (by decide) (by decide)
            obtain ⟨ho25, hS⟩ := hS
            replace hx : Ext [(3, 4), (3, 6), (4, 0), (4, 1), (4, 2), (4, 3), (4, 4), (4, 5), (4, 6), (4, 7), (4, 8), (4, 9), (4, 10)] [(3, 0)] true M (cP 4 (cP 4 (cP 4 (cP 4 w21 M.2.1 1 (.int x2)) M.2.1 2 (.int x3)) M.2.1 4 (.int x1)) M.2.1 5 (.int x4)) := hx.putI 5 ho25 (by decide) (by decide)
            obtain ⟨ho26, hS⟩ := hS
            obtain ⟨ho27, hS⟩ := hS
            obtain ⟨hs28, hS⟩ := hS
            rw [mbind_eq] at hF hS
            replace hx := Ext.then hM hx (x_Ns_giveReadyClauses cs lim _ ((cQ (cP 4 (cP 4 (cP 4 (cP 4 w21 M.2.1 1 (.int x2)) M.2.1 2 (.int x3)) M.2.1 4 (.int x1)) M.2.1 5 (.int x4)) a0 1).getD 0) (some M.2.1) hx.ok hs28) (by decide) (by decide) (by decide)
            generalize F_Ns_giveReadyClauses cs (cP 4 (cP 4 (cP 4 (cP 4 w21 M.2.1 1 (.int x2)) M.2.1 2 (.int x3)) M.2.1 4 (.int x1)) M.2.1 5 (.int x4)) ((cQ (cP 4 (cP 4 (cP 4 (cP 4 w21 M.2.1 1 (.int x2)) M.2.1 2 (.int x3)) M.2.1 4 (.int x1)) M.2.1 5 (.int x4)) a0 1).getD 0) (some M.2.1) = w29 at hF hS hx
            obtain ⟨ho30, hS⟩ := hS
            obtain ⟨ho31, hS⟩ := hS
            obtain ⟨hs32, hS⟩ := hS
            rw [mbind_eq] at hF hS
            replace hx := Ext.then hM hx (x_Ns_add cs lim n _ ((cQ w29 a0 1).getD 0) (some M.2.1) hx.ok hs32) (by decide) (by decide) (by decide)
            generalize F_Ns_add cs n w29 ((cQ w29 a0 1).getD 0) (some M.2.1) = w33 at hF hS hx
            subst hF
            exact hx
          · rw [if_neg h018] at hF
            subst hF
            exact hx.xgsk
        · rw [if_neg h014] at hF
          subst hF
          exact hx.xgsk
      · rw [if_neg h010] at hF
        subst hF
        exact hx.xgsk
    · rw [if_neg h07] at hF
      subst hF
      exact hx.xgsk
  · rw [if_neg h04] at hF
    subst hF
    exact hx.xgsk
theorem x_N_two (cs : Nat → ClassId) (lim : Nat × Nat) (n : Nat) (M : gMem) (a0 : Nat) (x1 : Int32) (x2 : Int32) (x3 : Int32) (hM : MOk M) (hS : S_N_two cs lim n M a0 x1 x2 x3) : Ext [(3, 4), (4, 0), (4, 1), (4, 2), (4, 3), (4, 4), (4, 5), (4, 6), (4, 9), (4, 10)] [(3, 0)] true M ((F_N_two cs n M a0 x1 x2 x3).2.2) := by
  generalize hF : F_N_two cs n M a0 x1 x2 x3 = Fv
  unfold F_N_two at hF
  unfold S_N_two at hS
  have hx : Ext [(3, 4), (4, 0), (4, 1), (4, 2), (4, 3), (4, 4), (4, 5), (4, 6), (4, 9), (4, 10)] [(3, 0)] true M M := Ext.rf hM
  by_cases hc1 : x1 < 0
  · rw [if_pos hc1] at hF hS
    obtain ⟨hl2, hS⟩ := hS
    subst hF
    exact hx.xgsk
  · rw [if_neg hc1] at hF hS
    by_cases hc3 : x1 ≤ 4
    · rw [if_pos hc3] at hF hS
      obtain ⟨ho4, hS⟩ := hS
      obtain ⟨hs5, hS⟩ := hS
      rw [mbind_eq] at hF hS
      generalize hq_w6 : F_N_needNode cs M a0 x2 = w6 at hF hS
      by_cases h07 : w6 = 0
      · rw [if_pos h07] at hF hS
        obtain ⟨ho8, hS⟩ := hS
        obtain ⟨hs9, hS⟩ := hS
        rw [mbind_eq] at hF hS
        generalize hq_w10 : F_N_needNode cs M a0 x3 = w10 at hF hS
        by_cases h011 : w10 = 0
        · rw [if_pos h011] at hF hS
          obtain ⟨ho12, hS⟩ := hS
          obtain ⟨hs13, hS⟩ := hS
          rw [mbind_eq] at hF hS
          generalize hq_w14 : F_N_needRoom cs M a0  = w14 at hF hS
          by_cases h015 : w14 = 0
          · rw [if_pos h015] at hF hS
            obtain ⟨hl16, hS⟩ := hS
            replace hx : Ext [(3, 4), (4, 0), (4, 1), (4, 2), (4, 3), (4, 4), (4, 5), (4, 6), (4, 9), (4, 10)] [(3, 0)] true M (gnw M (1, .inr (4, [.int 0, .int 0, .int 0, .int 0, .int 0, .int 0, .int 0, .int 0, .int 0, .int 0, .int 0])) 11) := hx.newO (by decide)
            obtain ⟨hs17, hS⟩ := hS
            rw [mbind_eq] at hF hS
            replace hx := Ext.then hM hx (x_No_init cs lim _ M.2.1 9 hx.ok hs17) (by decide) (by decide) (by decide)
            generalize F_No_init cs (gnw M (1, .inr (4, [.int 0, .int 0, .int 0, .int 0, .int 0, .int 0, .int 0, .int 0, .int 0, .int 0, .int 0])) 11) M.2.1 9 = w18 at hF hS hx
            obtain ⟨ho19, hS⟩ := hS
            replace hx : Ext [(3, 4), (4, 0), (4, 1), (4, 2), (4, 3), (4, 4), (4, 5), (4, 6), (4, 9), (4, 10)] [(3, 0)] true M (cP 4 w18 M.2.1 1 (.int x1)) := hx.putI 1 ho19 (by decide) (by decide)
            obtain ⟨ho20, hS⟩ := hS
            replace hx : Ext [(3, 4), (4, 0), (4, 1), (4, 2), (4, 3), (4, 4), (4, 5), (4, 6), (4, 9), (4, 10)] [(3, 0)] true M (cP 4 (cP 4 w18 M.2.1 1 (.int x1)) M.2.1 4 (.int x2)) := hx.putI 4 ho20 (by decide) (by decide)
            obtain ⟨ho21, hS⟩ := hS
            replace hx : Ext [(3, 4), (4, 0), (4, 1), (4, 2), (4, 3), (4, 4), (4, 5), (4, 6), (4, 9), (4, 10)] [(3, 0)] true M (cP 4 (cP 4 (cP 4 w18 M.2.1 1 (.int x1)) M.2.1 4 (.int x2)) M.2.1 5 (.int x3)) := hx.putI 5 ho21 (by decide) (by decide)
            obtain ⟨ho22, hS⟩ := hS
            obtain ⟨ho23, hS⟩ := hS
            obtain ⟨hs24, hS⟩ := hS
            rw [mbind_eq] at hF hS
            replace hx := Ext.then hM hx (x_Ns_add cs lim n _ ((cQ (cP 4 (cP 4 (cP 4 w18 M.2.1 1 (.int x1)) M.2.1 4 (.int x2)) M.2.1 5 (.int x3)) a0 1).getD 0) (some M.2.1) hx.ok hs24) (by decide) (by decide) (by decide)
            generalize F_Ns_add cs n (cP 4 (cP 4 (cP 4 w18 M.2.1 1 (.int x1)) M.2.1 4 (.int x2)) M.2.1 5 (.int x3)) ((cQ (cP 4 (cP 4 (cP 4 w18 M.2.1 1 (.int x1)) M.2.1 4 (.int x2)) M.2.1 5 (.int x3)) a0 1).getD 0) (some M.2.1) = w25 at hF hS hx
            subst hF
            exact hx
          · rw [if_neg h015] at hF
            subst hF
            exact hx.xgsk
        · rw [if_neg h011] at hF
          subst hF
          exact hx.xgsk
      · rw [if_neg h07] at hF
        subst hF
        exact hx.xgsk
    · rw [if_neg hc3] at hF hS
      obtain ⟨hl26, hS⟩ := hS
      subst hF
      exact hx.xgsk
theorem x_N_call (cs : Nat → ClassId) (lim : Nat × Nat) (n : Nat) (M : gMem) (a0 : Nat) (x1 : Int32) (x2 : Int32) (hM : MOk M) (hS : S_N_call cs lim n M a0 x1 x2) : Ext [(3, 4), (4, 0), (4, 2), (4, 3), (4, 4), (4, 5), (4, 6), (4, 9), (4, 10)] [(3, 0)] true M ((F_N_call cs n M a0 x1 x2).2.2) := by
  generalize hF : F_N_call cs n M a0 x1 x2 = Fv
  unfold F_N_call at hF
  unfold S_N_call at hS
  have hx : Ext [(3, 4), (4, 0), (4, 2), (4, 3), (4, 4), (4, 5), (4, 6), (4, 9), (4, 10)] [(3, 0)] true M M := Ext.rf hM
  obtain ⟨ho1, hS⟩ := hS
  obtain ⟨hs2, hS⟩ := hS
  rw [mbind_eq] at hF hS
  generalize hq_w3 : F_N_needNode cs M a0 x1 = w3 at hF hS
  by_cases h04 : w3 = 0
  · rw [if_pos h04] at hF hS
    obtain ⟨ho5, hS⟩ := hS
    obtain ⟨hs6, hS⟩ := hS
    rw [mbind_eq] at hF hS
    generalize hq_w7 : F_N_needNode cs M a0 x2 = w7 at hF hS
    by_cases h08 : w7 = 0
    · rw [if_pos h08] at hF hS
      obtain ⟨ho9, hS⟩ := hS
      obtain ⟨hs10, hS⟩ := hS
      rw [mbind_eq] at hF hS
      generalize hq_w11 : F_N_needRoom cs M a0  = w11 at hF hS
      by_cases h012 : w11 = 0
      · rw [if_pos h012] at hF hS
        obtain ⟨hl13, hS⟩ := hS
        replace hx : Ext [(3, 4), (4, 0), (4, 2), (4, 3), (4, 4), (4, 5), (4, 6), (4, 9), (4, 10)] [(3, 0)] true M (gnw M (1, .inr (4, [.int 0, .int 0, .int 0, .int 0, .int 0, .int 0, .int 0, .int 0, .int 0, .int 0, .int 0])) 11) := hx.newO (by decide)
        obtain ⟨hs14, hS⟩ := hS
        rw [mbind_eq] at hF hS
        replace hx := Ext.then hM hx (x_No_init cs lim _ M.2.1 10 hx.ok hs14) (by decide) (by decide) (by decide)
        generalize F_No_init cs (gnw M (1, .inr (4, [.int 0, .int 0, .int 0, .int 0, .int 0, .int 0, .int 0, .int 0, .int 0, .int 0, .int 0])) 11) M.2.1 10 = w15 at hF hS hx
        obtain ⟨ho16, hS⟩ := hS
        replace hx : Ext [(3, 4), (4, 0), (4, 2), (4, 3), (4, 4), (4, 5), (4, 6), (4, 9), (4, 10)] [(3, 0)] true M (cP 4 w15 M.2.1 4 (.int x1)) := hx.putI 4 ho16 (by decide) (by decide)
        obtain ⟨ho17, hS⟩ := hS
        replace hx : Ext [(3, 4), (4, 0), (4, 2), (4, 3), (4, 4), (4, 5), (4, 6), (4, 9), (4, 10)] [(3, 0)] true M (cP 4 (cP 4 w15 M.2.1 4 (.int x1)) M.2.1 5 (.int x2)) := hx.putI 5 ho17 (by decide) (by decide)
        obtain ⟨ho18, hS⟩ := hS
        obtain ⟨ho19, hS⟩ := hS
        obtain ⟨hs20, hS⟩ := hS
        rw [mbind_eq] at hF hS
        replace hx := Ext.then hM hx (x_Ns_add cs lim n _ ((cQ (cP 4 (cP 4 w15 M.2.1 4 (.int x1)) M.2.1 5 (.int x2)) a0 1).getD 0) (some M.2.1) hx.ok hs20) (by decide) (by decide) (by decide)
        generalize F_Ns_add cs n (cP 4 (cP 4 w15 M.2.1 4 (.int x1)) M.2.1 5 (.int x2)) ((cQ (cP 4 (cP 4 w15 M.2.1 4 (.int x1)) M.2.1 5 (.int x2)) a0 1).getD 0) (some M.2.1) = w21 at hF hS hx
        subst hF
        exact hx
      · rw [if_neg h012] at hF
        subst hF
        exact hx.xgsk
    · rw [if_neg h08] at hF
      subst hF
      exact hx.xgsk
  · rw [if_neg h04] at hF
    subst hF
    exact hx.xgsk
theorem x_N_perform (cs : Nat → ClassId) (lim : Nat × Nat) (n : Nat) (M : gMem) (a0 : Nat) (x1 : Int32) (x2 : Int32) (hM : MOk M) (hS : S_N_perform cs lim n M a0 x1 x2) : Ext [(3, 4), (4, 0), (4, 1), (4, 2), (4, 3), (4, 4), (4, 5), (4, 6), (4, 9), (4, 10)] [(3, 0)] true M ((F_N_perform cs n M a0 x1 x2).2.2) := by
  generalize hF : F_N_perform cs n M a0 x1 x2 = Fv
  unfold F_N_perform at hF
  unfold S_N_perform at hS
  have hx : Ext [(3, 4), (4, 0), (4, 1), (4, 2), (4, 3), (4, 4), (4, 5), (4, 6), (4, 9), (4, 10)] [(3, 0)] true M M := Ext.rf hM
  obtain ⟨hs1, hS⟩ := hS
  rw [mbind_eq] at hF hS
  generalize hq_w2 : F_N_needEffect cs M x1 = w2 at hF hS
  by_cases h03 : w2 = 0
  · rw [if_pos h03] at hF hS
    obtain ⟨ho4, hS⟩ := hS
    obtain ⟨hs5, hS⟩ := hS
    rw [mbind_eq] at hF hS
    generalize hq_w6 : F_N_needNode cs M a0 x2 = w6 at hF hS
    by_cases h07 : w6 = 0
    · rw [if_pos h07] at hF hS
      obtain ⟨ho8, hS⟩ := hS
      obtain ⟨hs9, hS⟩ := hS
      rw [mbind_eq] at hF hS
      generalize hq_w10 : F_N_needRoom cs M a0  = w10 at hF hS
      by_cases h011 : w10 = 0
      · rw [if_pos h011] at hF hS
        obtain ⟨hl12, hS⟩ := hS
        replace hx : Ext [(3, 4), (4, 0), (4, 1), (4, 2), (4, 3), (4, 4), (4, 5), (4, 6), (4, 9), (4, 10)] [(3, 0)] true M (gnw M (1, .inr (4, [.int 0, .int 0, .int 0, .int 0, .int 0, .int 0, .int 0, .int 0, .int 0, .int 0, .int 0])) 11) := hx.newO (by decide)
        obtain ⟨hs13, hS⟩ := hS
        rw [mbind_eq] at hF hS
        replace hx := Ext.then hM hx (x_No_init cs lim _ M.2.1 11 hx.ok hs13) (by decide) (by decide) (by decide)
        generalize F_No_init cs (gnw M (1, .inr (4, [.int 0, .int 0, .int 0, .int 0, .int 0, .int 0, .int 0, .int 0, .int 0, .int 0, .int 0])) 11) M.2.1 11 = w14 at hF hS hx
        obtain ⟨ho15, hS⟩ := hS
        replace hx : Ext [(3, 4), (4, 0), (4, 1), (4, 2), (4, 3), (4, 4), (4, 5), (4, 6), (4, 9), (4, 10)] [(3, 0)] true M (cP 4 w14 M.2.1 1 (.int x1)) := hx.putI 1 ho15 (by decide) (by decide)
        obtain ⟨ho16, hS⟩ := hS
        replace hx : Ext [(3, 4), (4, 0), (4, 1), (4, 2), (4, 3), (4, 4), (4, 5), (4, 6), (4, 9), (4, 10)] [(3, 0)] true M (cP 4 (cP 4 w14 M.2.1 1 (.int x1)) M.2.1 4 (.int x2)) := hx.putI 4 ho16 (by decide) (by decide)
        obtain ⟨ho17, hS⟩ := hS
        obtain ⟨ho18, hS⟩ := hS
        obtain ⟨hs19, hS⟩ := hS
        rw [mbind_eq] at hF hS
        replace hx := Ext.then hM hx (x_Ns_add cs lim n _ ((cQ (cP 4 (cP 4 w14 M.2.1 1 (.int x1)) M.2.1 4 (.int x2)) a0 1).getD 0) (some M.2.1) hx.ok hs19) (by decide) (by decide) (by decide)
        generalize F_Ns_add cs n (cP 4 (cP 4 w14 M.2.1 1 (.int x1)) M.2.1 4 (.int x2)) ((cQ (cP 4 (cP 4 w14 M.2.1 1 (.int x1)) M.2.1 4 (.int x2)) a0 1).getD 0) (some M.2.1) = w20 at hF hS hx
        subst hF
        exact hx
      · rw [if_neg h011] at hF
        subst hF
        exact hx.xgsk
    · rw [if_neg h07] at hF
      subst hF
      exact hx.xgsk
  · rw [if_neg h03] at hF
    subst hF
    exact hx.xgsk
theorem x_N_start (cs : Nat → ClassId) (lim : Nat × Nat) (dE : Nat × Nat) (M : gMem) (a0 : Nat) (hM : MOk M) (hS : S_N_start cs lim dE M a0) : Ext [(8, 4), (8, 5), (8, 6), (8, 7), (8, 8), (8, 9), (8, 10), (9, 2), (9, 3), (9, 4), (10, 0), (10, 1), (10, 2), (10, 3), (10, 4), (13, 0), (13, 1), (13, 2)] [(10, 0), (13, 0)] true M ((F_N_start cs dE M a0).2) := by
  generalize hF : F_N_start cs dE M a0 = Fv
  unfold F_N_start at hF
  unfold S_N_start at hS
  have hx : Ext [(8, 4), (8, 5), (8, 6), (8, 7), (8, 8), (8, 9), (8, 10), (9, 2), (9, 3), (9, 4), (10, 0), (10, 1), (10, 2), (10, 3), (10, 4), (13, 0), (13, 1), (13, 2)] [(10, 0), (13, 0)] true M M := Ext.rf hM
  obtain ⟨ho1, hS⟩ := hS
  obtain ⟨ho2, hS⟩ := hS
  by_cases hc3 : (cI M ((cQ M a0 6).getD 0) 2) = 0
  · rw [if_pos hc3] at hF hS
    obtain ⟨hl8, hS⟩ := hS
    subst hF
    exact hx.xgsk
  · rw [if_neg hc3] at hF hS
    obtain ⟨ho4, hS⟩ := hS
    obtain ⟨ho5, hS⟩ := hS
    obtain ⟨hs6, hS⟩ := hS
    rw [mbind_eq] at hF hS
    replace hx := Ext.then hM hx (x_Ma_begin cs lim dE _ ((cQ M a0 6).getD 0)  hx.ok hs6) (by decide) (by decide) (by decide)
    generalize F_Ma_begin cs dE M ((cQ M a0 6).getD 0)  = w7 at hF hS hx
    subst hF
    exact hx
theorem x_N_run (cs : Nat → ClassId) (lim : Nat × Nat) (dE : Nat × Nat) (n : Nat) (M : gMem) (a0 : Nat) (x1 : Int32) (hM : MOk M) (hS : S_N_run cs lim dE n M a0 x1) : Ext [(8, 4), (8, 5), (8, 6), (8, 7), (8, 8), (8, 9), (8, 10), (8, 11), (8, 12), (8, 13), (9, 2), (9, 3), (9, 4), (10, 0), (10, 1), (10, 2), (10, 3), (10, 4), (11, 0), (11, 1), (11, 2), (11, 3), (11, 4), (11, 5), (11, 6), (13, 0), (13, 1), (13, 2)] [(10, 0), (11, 0), (13, 0)] true M ((F_N_run cs dE n M a0 x1).2.2) := by
  generalize hF : F_N_run cs dE n M a0 x1 = Fv
  unfold F_N_run at hF
  unfold S_N_run at hS
  have hx : Ext [(8, 4), (8, 5), (8, 6), (8, 7), (8, 8), (8, 9), (8, 10), (8, 11), (8, 12), (8, 13), (9, 2), (9, 3), (9, 4), (10, 0), (10, 1), (10, 2), (10, 3), (10, 4), (11, 0), (11, 1), (11, 2), (11, 3), (11, 4), (11, 5), (11, 6), (13, 0), (13, 1), (13, 2)] [(10, 0), (11, 0), (13, 0)] true M M := Ext.rf hM
  obtain ⟨ho1, hS⟩ := hS
  obtain ⟨ho2, hS⟩ := hS
  by_cases hc3 : (cI M ((cQ M a0 6).getD 0) 4) = 0
  · rw [if_pos hc3] at hF hS
    obtain ⟨hl12, hS⟩ := hS
    subst hF
    exact hx.xgsk
  · rw [if_neg hc3] at hF hS
    by_cases hc4 : x1 < 0
    · rw [if_pos hc4] at hF hS
      obtain ⟨hl5, hS⟩ := hS
      subst hF
      exact hx.xgsk
    · rw [if_neg hc4] at hF hS
      by_cases hc6 : x1 ≤ 200
      · rw [if_pos hc6] at hF hS
        obtain ⟨ho7, hS⟩ := hS
        obtain ⟨ho8, hS⟩ := hS
        obtain ⟨hs9, hS⟩ := hS
        rw [mbind_eq] at hF hS
        replace hx := Ext.then hM hx (x_Ma_goOnFor cs lim dE n _ ((cQ M a0 6).getD 0) x1 hx.ok hs9) (by decide) (by decide) (by decide)
        generalize F_Ma_goOnFor cs dE n M ((cQ M a0 6).getD 0) x1 = w10 at hF hS hx
        subst hF
        exact hx
      · rw [if_neg hc6] at hF hS
        obtain ⟨hl11, hS⟩ := hS
        subst hF
        exact hx.xgsk
end
