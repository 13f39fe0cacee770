-- pure rows: CH CI CJ CK CL CM
section
/-! pure rows, the class: the types -/
def fitC (g : Nat → Int32) (a b : Nat) : Prop := a = b ∨ (3 ≤ a ∧ 3 ≤ b ∧ Bit (g (a * 16 + b / 32)) (b % 32))
def TyG (τ : TT) (g0 g1 g2 : Nat → Int32) : Prop := ∀ t, 3 ≤ t → t < 3 + τ.length → (g0 t).toInt = tA τ t ∧ (g1 t).toInt = tR τ t ∧ g2 t = tW τ t
def Rule (τ : TT) (g : Nat → Int32) : Prop := ∀ a b, a < 3 + τ.length → b < 3 + τ.length → (fitC g a b ↔ a = b ∨ (3 ≤ a ∧ 3 ≤ b ∧ fitC g (tA τ b) (tA τ a) ∧ fitC g (tR τ a) (tR τ b) ∧ Within (tW τ a) (tW τ b)))
def TyC (cs : Nat → ClassId) (A : Ad) (M : gMem) (τ : TT) (g0 g1 g2 g3 : Nat → Int32) (k0 k1 k2 k3 : Nat) : Prop := (CeIs cs M A.c0 g0 k0) ∧ (CeIs cs M A.c1 g1 k1) ∧ (CeIs cs M A.c2 g2 k2) ∧ (CeIs cs M A.c3 g3 k3) ∧ (TyG τ g0 g1 g2) ∧ (τ.length ≤ 509) ∧ (WT τ)
theorem TyC.c0 {cs : Nat → ClassId} {A : Ad} {M : gMem} {τ : TT} {g0 g1 g2 g3 : Nat → Int32} {k0 k1 k2 k3 : Nat} (self : TyC cs A M τ g0 g1 g2 g3 k0 k1 k2 k3) : CeIs cs M A.c0 g0 k0 := self.1
theorem TyC.c1 {cs : Nat → ClassId} {A : Ad} {M : gMem} {τ : TT} {g0 g1 g2 g3 : Nat → Int32} {k0 k1 k2 k3 : Nat} (self : TyC cs A M τ g0 g1 g2 g3 k0 k1 k2 k3) : CeIs cs M A.c1 g1 k1 := self.2.1
theorem TyC.c2 {cs : Nat → ClassId} {A : Ad} {M : gMem} {τ : TT} {g0 g1 g2 g3 : Nat → Int32} {k0 k1 k2 k3 : Nat} (self : TyC cs A M τ g0 g1 g2 g3 k0 k1 k2 k3) : CeIs cs M A.c2 g2 k2 := self.2.2.1
theorem TyC.c3 {cs : Nat → ClassId} {A : Ad} {M : gMem} {τ : TT} {g0 g1 g2 g3 : Nat → Int32} {k0 k1 k2 k3 : Nat} (self : TyC cs A M τ g0 g1 g2 g3 k0 k1 k2 k3) : CeIs cs M A.c3 g3 k3 := self.2.2.2.1
theorem TyC.g {cs : Nat → ClassId} {A : Ad} {M : gMem} {τ : TT} {g0 g1 g2 g3 : Nat → Int32} {k0 k1 k2 k3 : Nat} (self : TyC cs A M τ g0 g1 g2 g3 k0 k1 k2 k3) : TyG τ g0 g1 g2 := self.2.2.2.2.1
theorem TyC.len {cs : Nat → ClassId} {A : Ad} {M : gMem} {τ : TT} {g0 g1 g2 g3 : Nat → Int32} {k0 k1 k2 k3 : Nat} (self : TyC cs A M τ g0 g1 g2 g3 k0 k1 k2 k3) : τ.length ≤ 509 := self.2.2.2.2.2.1
theorem TyC.wt {cs : Nat → ClassId} {A : Ad} {M : gMem} {τ : TT} {g0 g1 g2 g3 : Nat → Int32} {k0 k1 k2 k3 : Nat} (self : TyC cs A M τ g0 g1 g2 g3 k0 k1 k2 k3) : WT τ := self.2.2.2.2.2.2
section
variable {cs : Nat → ClassId} {lim : Nat × Nat} {A : Ad} {M : gMem} {τ : TT} {g0 g1 g2 g3 : Nat → Int32} {k0 k1 k2 k3 : Nat}
theorem ty_suits (L : Lay cs A M) (h : TyC cs A M τ g0 g1 g2 g3 k0 k1 k2 k3) {x y : Int32} {a b : Nat} (hx : x.toInt = a) (hy : y.toInt = b) (ha : a < 512) (hb : b < 512) : S_Ty_suits cs lim M A.ty x y ∧ ((F_Ty_suits cs M A.ty x y = 1 ∧ fitC g3 a b) ∨ (F_Ty_suits cs M A.ty x y = 0 ∧ ¬ fitC g3 a b)) := by
  unfold S_Ty_suits F_Ty_suits fitC
  by_cases h1 : x = y
  · simp only [if_pos h1]
    have : a = b := by ((try (simp only [vp_in, Int32.toNatClampNeg, Int32.lt_iff_toInt_lt, Int32.le_iff_toInt_le, ← Int32.toInt_inj, Int32.toInt_add, Int32.toInt_sub, Int32.toInt_mul, Int32.reduceToInt, i32_neg1, Nat.reducePow, Int.reducePow, ne_eq, ge_iff_le, gt_iff_lt] at *)) <;> (first | omega | ((simp (disch := omega) only [bm32] at *) <;> omega)))
    exact ⟨trivial, Or.inl ⟨trivial, Or.inl this⟩⟩
  · simp only [if_neg h1]
    have hab : a ≠ b := by ((try (simp only [vp_in, Int32.toNatClampNeg, Int32.lt_iff_toInt_lt, Int32.le_iff_toInt_le, ← Int32.toInt_inj, Int32.toInt_add, Int32.toInt_sub, Int32.toInt_mul, Int32.reduceToInt, i32_neg1, Nat.reducePow, Int.reducePow, ne_eq, ge_iff_le, gt_iff_lt] at *)) <;> (first | omega | ((simp (disch := omega) only [bm32] at *) <;> omega)))
    by_cases h2 : x < 3
    · simp only [if_pos h2]
      have : a < 3 := by ((try (simp only [vp_in, Int32.toNatClampNeg, Int32.lt_iff_toInt_lt, Int32.le_iff_toInt_le, ← Int32.toInt_inj, Int32.toInt_add, Int32.toInt_sub, Int32.toInt_mul, Int32.reduceToInt, i32_neg1, Nat.reducePow, Int.reducePow, ne_eq, ge_iff_le, gt_iff_lt] at *)) <;> (first | omega | ((simp (disch := omega) only [bm32] at *) <;> omega)))
      exact ⟨trivial, Or.inr ⟨trivial, by omega⟩⟩
    · simp only [if_neg h2]
      have h2' : 3 ≤ a := by ((try (simp only [vp_in, Int32.toNatClampNeg, Int32.lt_iff_toInt_lt, Int32.le_iff_toInt_le, ← Int32.toInt_inj, Int32.toInt_add, Int32.toInt_sub, Int32.toInt_mul, Int32.reduceToInt, i32_neg1, Nat.reducePow, Int.reducePow, ne_eq, ge_iff_le, gt_iff_lt] at *)) <;> (first | omega | ((simp (disch := omega) only [bm32] at *) <;> omega)))
      by_cases h3 : 3 ≤ y
      · simp only [if_pos h3]
        have h3' : 3 ≤ b := by ((try (simp only [vp_in, Int32.toNatClampNeg, Int32.lt_iff_toInt_lt, Int32.le_iff_toInt_le, ← Int32.toInt_inj, Int32.toInt_add, Int32.toInt_sub, Int32.toInt_mul, Int32.reduceToInt, i32_neg1, Nat.reducePow, Int.reducePow, ne_eq, ge_iff_le, gt_iff_lt] at *)) <;> (first | omega | ((simp (disch := omega) only [bm32] at *) <;> omega)))
        have hd : (y / 32).toInt = (b / 32 : Nat) := by
          rw [Int32.toInt_div_of_ne_right _ _ (by decide), hy]
          rfl
        have hix : (x * 16 + y / 32).toInt = (a * 16 + b / 32 : Nat) := by
          have : b / 32 < 16 := by omega
          ((try (simp only [vp_in, Int32.toNatClampNeg, Int32.lt_iff_toInt_lt, Int32.le_iff_toInt_le, ← Int32.toInt_inj, Int32.toInt_add, Int32.toInt_sub, Int32.toInt_mul, Int32.reduceToInt, i32_neg1, Nat.reducePow, Int.reducePow, ne_eq, ge_iff_le, gt_iff_lt] at *)) <;> (first | omega | ((simp (disch := omega) only [bm32] at *) <;> omega)))
        have hm : (y - y / 32 * 32).toInt = (b % 32 : Nat) := by
          have := Nat.mod_add_div b 32
          have : b / 32 < 16 := by omega
          ((try (simp only [vp_in, Int32.toNatClampNeg, Int32.lt_iff_toInt_lt, Int32.le_iff_toInt_le, ← Int32.toInt_inj, Int32.toInt_add, Int32.toInt_sub, Int32.toInt_mul, Int32.reduceToInt, i32_neg1, Nat.reducePow, Int.reducePow, ne_eq, ge_iff_le, gt_iff_lt] at *)) <;> (first | omega | ((simp (disch := omega) only [bm32] at *) <;> omega)))
        have r := ce_at (lim := lim) h.c3 (x * 16 + y / 32)
        rw [hix, if_neg (by omega), Int.toNat_natCast] at r
        rw [L.ty_3.2]
        simp only [Option.getD_some, mbind_eq, r.2]
        have hbit := bit_read (g3 (a * 16 + b / 32)) _ hm (Nat.mod_lt _ (by decide))
        refine ⟨⟨L.ty_3.1, ⟨_, rfl, h.c3.ok⟩, r.1, ?_⟩, ?_⟩
        · split <;> trivial
        · by_cases hz : (((g3 (a * 16 + b / 32)).toUInt32 >>> ((y - y / 32 * 32).toUInt32 &&& Int32.toUInt32 31)).toInt32 &&& 1) = 1
          · rw [if_pos hz]
            exact Or.inl ⟨rfl, Or.inr ⟨h2', h3', hbit.mp hz⟩⟩
          · rw [if_neg hz]
            refine Or.inr ⟨rfl, ?_⟩
            rintro (q | ⟨-, -, q⟩)
            · exact hab q
            · exact hz (hbit.mpr q)
      · simp only [if_neg h3]
        have : b < 3 := by ((try (simp only [vp_in, Int32.toNatClampNeg, Int32.lt_iff_toInt_lt, Int32.le_iff_toInt_le, ← Int32.toInt_inj, Int32.toInt_add, Int32.toInt_sub, Int32.toInt_mul, Int32.reduceToInt, i32_neg1, Nat.reducePow, Int.reducePow, ne_eq, ge_iff_le, gt_iff_lt] at *)) <;> (first | omega | ((simp (disch := omega) only [bm32] at *) <;> omega)))
        exact ⟨trivial, Or.inr ⟨trivial, by omega⟩⟩
theorem ty_isType (L : Lay cs A M) (hc : (cI M A.ty 4).toInt = 3 + τ.length) (x : Int32) : S_Ty_isType cs lim M A.ty x ∧ F_Ty_isType cs M A.ty x = if 0 ≤ x.toInt ∧ x.toInt < 3 + τ.length then 1 else 0 := by
  unfold S_Ty_isType F_Ty_isType
  by_cases h1 : x < 0
  · simp only [if_pos h1]
    rw [if_neg (by ((try (simp only [vp_in, Int32.toNatClampNeg, Int32.lt_iff_toInt_lt, Int32.le_iff_toInt_le, ← Int32.toInt_inj, Int32.toInt_add, Int32.toInt_sub, Int32.toInt_mul, Int32.reduceToInt, i32_neg1, Nat.reducePow, Int.reducePow, ne_eq, ge_iff_le, gt_iff_lt] at *)) <;> (first | omega | ((simp (disch := omega) only [bm32] at *) <;> omega))))]
    exact ⟨trivial, rfl⟩
  · simp only [if_neg h1]
    by_cases h2 : cI M A.ty 4 ≤ x
    · simp only [if_pos h2]
      rw [if_neg (by ((try (simp only [vp_in, Int32.toNatClampNeg, Int32.lt_iff_toInt_lt, Int32.le_iff_toInt_le, ← Int32.toInt_inj, Int32.toInt_add, Int32.toInt_sub, Int32.toInt_mul, Int32.reduceToInt, i32_neg1, Nat.reducePow, Int.reducePow, ne_eq, ge_iff_le, gt_iff_lt] at *)) <;> (first | omega | ((simp (disch := omega) only [bm32] at *) <;> omega))))]
      exact ⟨⟨L.ty_0.1, trivial⟩, rfl⟩
    · simp only [if_neg h2]
      rw [if_pos (by ((try (simp only [vp_in, Int32.toNatClampNeg, Int32.lt_iff_toInt_lt, Int32.le_iff_toInt_le, ← Int32.toInt_inj, Int32.toInt_add, Int32.toInt_sub, Int32.toInt_mul, Int32.reduceToInt, i32_neg1, Nat.reducePow, Int.reducePow, ne_eq, ge_iff_le, gt_iff_lt] at *)) <;> (first | omega | ((simp (disch := omega) only [bm32] at *) <;> omega))))]
      exact ⟨⟨L.ty_0.1, trivial⟩, rfl⟩
theorem ty_isFunction (L : Lay cs A M) (hc : (cI M A.ty 4).toInt = 3 + τ.length) (x : Int32) : S_Ty_isFunction cs lim M A.ty x ∧ F_Ty_isFunction cs M A.ty x = if 3 ≤ x.toInt ∧ x.toInt < 3 + τ.length then 1 else 0 := by
  unfold S_Ty_isFunction F_Ty_isFunction
  by_cases h1 : x < 3
  · simp only [if_pos h1]
    rw [if_neg (by ((try (simp only [vp_in, Int32.toNatClampNeg, Int32.lt_iff_toInt_lt, Int32.le_iff_toInt_le, ← Int32.toInt_inj, Int32.toInt_add, Int32.toInt_sub, Int32.toInt_mul, Int32.reduceToInt, i32_neg1, Nat.reducePow, Int.reducePow, ne_eq, ge_iff_le, gt_iff_lt] at *)) <;> (first | omega | ((simp (disch := omega) only [bm32] at *) <;> omega))))]
    exact ⟨trivial, rfl⟩
  · simp only [if_neg h1]
    by_cases h2 : cI M A.ty 4 ≤ x
    · simp only [if_pos h2]
      rw [if_neg (by ((try (simp only [vp_in, Int32.toNatClampNeg, Int32.lt_iff_toInt_lt, Int32.le_iff_toInt_le, ← Int32.toInt_inj, Int32.toInt_add, Int32.toInt_sub, Int32.toInt_mul, Int32.reduceToInt, i32_neg1, Nat.reducePow, Int.reducePow, ne_eq, ge_iff_le, gt_iff_lt] at *)) <;> (first | omega | ((simp (disch := omega) only [bm32] at *) <;> omega))))]
      exact ⟨⟨L.ty_0.1, trivial⟩, rfl⟩
    · simp only [if_neg h2]
      rw [if_pos (by ((try (simp only [vp_in, Int32.toNatClampNeg, Int32.lt_iff_toInt_lt, Int32.le_iff_toInt_le, ← Int32.toInt_inj, Int32.toInt_add, Int32.toInt_sub, Int32.toInt_mul, Int32.reduceToInt, i32_neg1, Nat.reducePow, Int.reducePow, ne_eq, ge_iff_le, gt_iff_lt] at *)) <;> (first | omega | ((simp (disch := omega) only [bm32] at *) <;> omega))))]
      exact ⟨⟨L.ty_0.1, trivial⟩, rfl⟩
end
end
section
/-! pure rows, the class: a type is looked for, compared, written -/
section
variable {cs : Nat → ClassId} {lim : Nat × Nat} {A : Ad} {M : gMem} {τ : TT} {g0 g1 g2 g3 : Nat → Int32} {k0 k1 k2 k3 : Nat}
theorem ce_nat {c : Nat} {g : Nat → Int32} {cap : Nat} (h : CeIs cs M c g cap) {x : Int32} {i : Nat} (hx : x.toInt = i) : S_Ce_at cs lim M c x ∧ F_Ce_at cs M c x = g i := by
  have r := ce_at (lim := lim) h x
  rw [hx, if_neg (by omega), Int.toNat_natCast] at r
  exact r
theorem drop_t {t : Nat} (h3 : 3 ≤ t) (h : t < 3 + τ.length) : τ.drop (t - 3) = (tA τ t, tR τ t, tW τ t) :: τ.drop (t + 1 - 3) := by
  have h1 := tget h3 h
  obtain ⟨h2, h4⟩ := List.getElem?_eq_some_iff.mp h1
  rw [List.drop_eq_getElem_cons h2, h4, show t - 3 + 1 = t + 1 - 3 by omega]
theorem ty_find_3 (L : Lay cs A M) (h : TyC cs A M τ g0 g1 g2 g3 k0 k1 k2 k3) (hc : (cI M A.ty 4).toInt = 3 + τ.length) {x1 x2 x3 : Int32} {a b : Nat} (h1 : x1.toInt = a) (h2 : x2.toInt = b) : ∀ (d i : Nat) (x4 : Int32) (n : Nat), 3 + τ.length - i = d → 3 ≤ i → i ≤ 3 + τ.length → x4.toInt = i → d < n →
    S_Ty_find_3 cs lim n M A.ty x1 x2 x3 x4 ∧ ((∃ j, find (a, b, x3) (τ.drop (i - 3)) i = some j ∧ (F_Ty_find_3 cs n M A.ty x1 x2 x3 x4).toInt = j) ∨ (find (a, b, x3) (τ.drop (i - 3)) i = none ∧ F_Ty_find_3 cs n M A.ty x1 x2 x3 x4 = -1)) := by
  have hl := h.len
  intro d
  induction d with
  | zero =>
    intro i x4 n hd hi hi2 hx hn
    obtain ⟨n, rfl⟩ : ∃ m, n = m + 1 := ⟨n - 1, by omega⟩
    have : cI M A.ty 4 ≤ x4 := by ((try (simp only [vp_in, Int32.toNatClampNeg, Int32.lt_iff_toInt_lt, Int32.le_iff_toInt_le, ← Int32.toInt_inj, Int32.toInt_add, Int32.toInt_sub, Int32.toInt_mul, Int32.reduceToInt, i32_neg1, Nat.reducePow, Int.reducePow, ne_eq, ge_iff_le, gt_iff_lt] at *)) <;> (first | omega | ((simp (disch := omega) only [bm32] at *) <;> omega)))
    simp only [S_Ty_find_3, F_Ty_find_3, if_pos this]
    refine ⟨⟨L.ty_0.1, trivial⟩, Or.inr ⟨?_, trivial⟩⟩
    rw [List.drop_eq_nil_of_le (by omega)]
    rfl
  | succ d ih =>
    intro i x4 n hd hi hi2 hx hn
    obtain ⟨n, rfl⟩ : ∃ m, n = m + 1 := ⟨n - 1, by omega⟩
    have hlt : ¬ cI M A.ty 4 ≤ x4 := by ((try (simp only [vp_in, Int32.toNatClampNeg, Int32.lt_iff_toInt_lt, Int32.le_iff_toInt_le, ← Int32.toInt_inj, Int32.toInt_add, Int32.toInt_sub, Int32.toInt_mul, Int32.reduceToInt, i32_neg1, Nat.reducePow, Int.reducePow, ne_eq, ge_iff_le, gt_iff_lt] at *)) <;> (first | omega | ((simp (disch := omega) only [bm32] at *) <;> omega)))
    obtain ⟨e1, e2, e3⟩ := h.g i hi (by omega)
    obtain ⟨s0, v0⟩ := ce_nat (lim := lim) h.c0 hx
    obtain ⟨s1, v1⟩ := ce_nat (lim := lim) h.c1 hx
    obtain ⟨s2, v2⟩ := ce_nat (lim := lim) h.c2 hx
    have rc := ih (i + 1) (x4 + 1) n (by omega) (by omega) (by omega) (by ((try (simp only [vp_in, Int32.toNatClampNeg, Int32.lt_iff_toInt_lt, Int32.le_iff_toInt_le, ← Int32.toInt_inj, Int32.toInt_add, Int32.toInt_sub, Int32.toInt_mul, Int32.reduceToInt, i32_neg1, Nat.reducePow, Int.reducePow, ne_eq, ge_iff_le, gt_iff_lt] at *)) <;> (first | omega | ((simp (disch := omega) only [bm32] at *) <;> omega)))) (by omega)
    simp only [S_Ty_find_3, F_Ty_find_3, if_neg hlt, L.ty_0.2, L.ty_1.2, L.ty_2.2, Option.getD_some, mbind_eq, v0, v1, v2]
    rw [drop_t hi (by omega)]
    simp only [find]
    have o0 := L.ty_0.1
    have q0 : cOq 2 M (some A.c0) := ⟨_, rfl, h.c0.ok⟩
    have q1 : cOq 2 M (some A.c1) := ⟨_, rfl, h.c1.ok⟩
    have q2 : cOq 2 M (some A.c2) := ⟨_, rfl, h.c2.ok⟩
    by_cases z0 : g0 i = x1
    · simp only [if_pos z0]
      have y0 : tA τ i = a := by rw [z0] at e1; omega
      by_cases z1 : g1 i = x2
      · simp only [if_pos z1]
        have y1 : tR τ i = b := by rw [z1] at e2; omega
        by_cases z2 : g2 i = x3
        · simp only [if_pos z2]
          rw [if_pos (by rw [y0, y1, ← e3, z2])]
          exact ⟨⟨o0, o0, q0, s0, o0, q1, s1, o0, q2, s2, trivial⟩, Or.inl ⟨i, rfl, hx⟩⟩
        · simp only [if_neg z2]
          rw [if_neg (fun q => z2 (by rw [e3]; exact (Prod.mk.inj (Prod.mk.inj q).2).2))]
          exact ⟨⟨o0, o0, q0, s0, o0, q1, s1, o0, q2, s2, rc.1⟩, rc.2⟩
      · simp only [if_neg z1]
        rw [if_neg (fun q => z1 (by have := (Prod.mk.inj (Prod.mk.inj q).2).1; rw [this] at e2; ((try (simp only [vp_in, Int32.toNatClampNeg, Int32.lt_iff_toInt_lt, Int32.le_iff_toInt_le, ← Int32.toInt_inj, Int32.toInt_add, Int32.toInt_sub, Int32.toInt_mul, Int32.reduceToInt, i32_neg1, Nat.reducePow, Int.reducePow, ne_eq, ge_iff_le, gt_iff_lt] at *)) <;> (first | omega | ((simp (disch := omega) only [bm32] at *) <;> omega)))))]
        exact ⟨⟨o0, o0, q0, s0, o0, q1, s1, rc.1⟩, rc.2⟩
    · simp only [if_neg z0]
      rw [if_neg (fun q => z0 (by have := (Prod.mk.inj q).1; rw [this] at e1; ((try (simp only [vp_in, Int32.toNatClampNeg, Int32.lt_iff_toInt_lt, Int32.le_iff_toInt_le, ← Int32.toInt_inj, Int32.toInt_add, Int32.toInt_sub, Int32.toInt_mul, Int32.reduceToInt, i32_neg1, Nat.reducePow, Int.reducePow, ne_eq, ge_iff_le, gt_iff_lt] at *)) <;> (first | omega | ((simp (disch := omega) only [bm32] at *) <;> omega)))))]
      exact ⟨⟨o0, o0, q0, s0, rc.1⟩, rc.2⟩
theorem ty_find (L : Lay cs A M) (h : TyC cs A M τ g0 g1 g2 g3 k0 k1 k2 k3) (hc : (cI M A.ty 4).toInt = 3 + τ.length) {x1 x2 x3 : Int32} {a b : Nat} (h1 : x1.toInt = a) (h2 : x2.toInt = b) {n : Nat} (hn : 600 ≤ n) :
    S_Ty_find cs lim n M A.ty x1 x2 x3 ∧ ((∃ j, find (a, b, x3) τ 3 = some j ∧ (F_Ty_find cs n M A.ty x1 x2 x3).toInt = j) ∨ (find (a, b, x3) τ 3 = none ∧ F_Ty_find cs n M A.ty x1 x2 x3 = -1)) := by
  have hl := h.len
  have := ty_find_3 (lim := lim) L h hc h1 h2 (x3 := x3) τ.length 3 3 n (by omega) (by omega) (by omega) (by decide) (by omega)
  rw [show 3 - 3 = 0 by omega, List.drop_zero] at this
  exact this
/-- the parts suit -/
def pS (τ : TT) (g : Nat → Int32) (a b : Nat) : Prop := fitC g (tA τ b) (tA τ a) ∧ fitC g (tR τ a) (tR τ b) ∧ Within (tW τ a) (tW τ b)
theorem ty_partsSuit (L : Lay cs A M) (h : TyC cs A M τ g0 g1 g2 g3 k0 k1 k2 k3) {x y : Int32} {a b : Nat} (hx : x.toInt = a) (hy : y.toInt = b) (ha : 3 ≤ a ∧ a < 3 + τ.length) (hb : 3 ≤ b ∧ b < 3 + τ.length) : S_Ty_partsSuit cs lim M A.ty x y ∧ ((F_Ty_partsSuit cs M A.ty x y = 1 ∧ pS τ g3 a b) ∨ (F_Ty_partsSuit cs M A.ty x y = 0 ∧ ¬ pS τ g3 a b)) := by
  have hl := h.len
  obtain ⟨ea0, ea1, ea2⟩ := h.g a ha.1 ha.2
  obtain ⟨eb0, eb1, eb2⟩ := h.g b hb.1 hb.2
  have wa := h.wt a ha.1 ha.2
  have wb := h.wt b hb.1 hb.2
  obtain ⟨sa0, va0⟩ := ce_nat (lim := lim) h.c0 hx
  obtain ⟨sa1, va1⟩ := ce_nat (lim := lim) h.c1 hx
  obtain ⟨sa2, va2⟩ := ce_nat (lim := lim) h.c2 hx
  obtain ⟨sb0, vb0⟩ := ce_nat (lim := lim) h.c0 hy
  obtain ⟨sb1, vb1⟩ := ce_nat (lim := lim) h.c1 hy
  obtain ⟨sb2, vb2⟩ := ce_nat (lim := lim) h.c2 hy
  obtain ⟨t1, u1⟩ := ty_suits (lim := lim) L h eb0 ea0 (by omega) (by omega)
  obtain ⟨t2, u2⟩ := ty_suits (lim := lim) L h ea1 eb1 (by omega) (by omega)
  have o0 := L.ty_0.1
  have q0 : cOq 2 M (some A.c0) := ⟨_, rfl, h.c0.ok⟩
  have q1 : cOq 2 M (some A.c1) := ⟨_, rfl, h.c1.ok⟩
  have q2 : cOq 2 M (some A.c2) := ⟨_, rfl, h.c2.ok⟩
  unfold S_Ty_partsSuit F_Ty_partsSuit pS
  simp only [L.ty_0.2, L.ty_1.2, L.ty_2.2, Option.getD_some, mbind_eq, va0, va1, va2, vb0, vb1, vb2]
  rcases u1 with ⟨w1, f1⟩ | ⟨w1, f1⟩
  · simp only [w1, if_neg (show ¬ (1 : Int32) = 0 by decide)]
    rcases u2 with ⟨w2, f2⟩ | ⟨w2, f2⟩
    · simp only [w2, if_neg (show ¬ (1 : Int32) = 0 by decide), S_N_isWithin, F_N_isWithin]
      by_cases hw : g2 a &&& (g2 b ^^^ -1) = 0
      · simp only [if_pos hw, if_neg (show ¬ (1 : Int32) = 0 by decide)]
        exact ⟨⟨o0, q0, sb0, o0, q0, sa0, o0, t1, o0, q1, sa1, o0, q1, sb1, o0, t2, o0, q2, sa2, o0, q2, sb2, trivial, trivial⟩, Or.inl ⟨trivial, f1, f2, by rw [← ea2, ← eb2]; exact hw⟩⟩
      · simp only [if_neg hw, if_pos]
        exact ⟨⟨o0, q0, sb0, o0, q0, sa0, o0, t1, o0, q1, sa1, o0, q1, sb1, o0, t2, o0, q2, sa2, o0, q2, sb2, trivial, trivial⟩, Or.inr ⟨trivial, fun z => hw (by rw [ea2, eb2]; exact z.2.2)⟩⟩
    · simp only [w2, if_pos]
      exact ⟨⟨o0, q0, sb0, o0, q0, sa0, o0, t1, o0, q1, sa1, o0, q1, sb1, o0, t2, trivial⟩, Or.inr ⟨trivial, fun z => f2 z.2.1⟩⟩
  · simp only [w1, if_pos]
    exact ⟨⟨o0, q0, sb0, o0, q0, sa0, o0, t1, trivial⟩, Or.inr ⟨trivial, fun z => f1 z.1⟩⟩
end
end
section
/-! pure rows, the class: a bit is written -/
theorem PutE.pot {cs : Nat → ClassId} {M M' : gMem} {c i : Nat} {v : Int32} {g : Nat → Int32} {k k' : Nat} (h : PutE cs M M' c i v g k k') : k ≤ k' ∧ M'.2.1 + k ≤ M.2.1 + k' ∧ M'.2.2 + 2 * k ≤ M.2.2 + 2 * k' ∧ (k' ≤ k ∨ k' ≤ 2 * (i + 1)) := by
  have := h.is.lo
  rcases h.sz with ⟨h1, h2⟩ | ⟨h1, h2, h3, h4, h5⟩
  · rw [h1, h2]; omega
  · rw [h4, h5]; omega
theorem Lay.nd {cs : Nat → ClassId} {A : Ad} {M : gMem} (L : Lay cs A M) : (A.c0 ≠ A.c1 ∧ A.c0 ≠ A.c2 ∧ A.c0 ≠ A.c3 ∧ A.c0 ≠ A.c4) ∧ (A.c1 ≠ A.c2 ∧ A.c1 ≠ A.c3 ∧ A.c1 ≠ A.c4) ∧ (A.c2 ≠ A.c3 ∧ A.c2 ≠ A.c4) ∧ A.c3 ≠ A.c4 := by
  have nd := L.dif.1
  simp only [List.nodup_cons, List.mem_cons, List.not_mem_nil, or_false, not_or] at nd
  exact ⟨nd.1, nd.2.1, nd.2.2.1, nd.2.2.2.1⟩
section
variable {cs : Nat → ClassId} {lim : Nat × Nat} {A : Ad} {M M' : gMem} {τ : TT} {g0 g1 g2 g3 : Nat → Int32} {k0 k1 k2 k3 : Nat}
theorem cell_inj {a b a' b' : Nat} (hb : b < 512) (hb' : b' < 512) : a' * 16 + b' / 32 = a * 16 + b / 32 ∧ b' % 32 = b % 32 ↔ a' = a ∧ b' = b := by omega
theorem ty_write (L : Lay cs A M) (h : TyC cs A M τ g0 g1 g2 g3 k0 k1 k2 k3) {x y z : Int32} {a b : Nat} (hx : x.toInt = a) (hy : y.toInt = b) (ha : a < 512) (hb : b < 512) (hl1 : M.2.1 + 1 ≤ lim.1) (hl2 : M.2.2 + 16384 ≤ lim.2) :
    S_Ty_write cs lim M A.ty x y z ∧ ∃ g3' k3', TyC cs A (F_Ty_write cs M A.ty x y z) τ g0 g1 g2 g3' k0 k1 k2 k3' ∧ Ext [(2, 0)] [(2, 0)] true M (F_Ty_write cs M A.ty x y z) ∧ (∀ a' b', b' < 512 → (Bit (g3' (a' * 16 + b' / 32)) (b' % 32) ↔ if a' = a ∧ b' = b then z ≠ 0 else Bit (g3 (a' * 16 + b' / 32)) (b' % 32))) ∧
      (k3 ≤ k3' ∧ (F_Ty_write cs M A.ty x y z).2.1 + k3 ≤ M.2.1 + k3' ∧ (F_Ty_write cs M A.ty x y z).2.2 + 2 * k3 ≤ M.2.2 + 2 * k3' ∧ (k3' ≤ k3 ∨ k3' ≤ 16384)) ∧ ∀ g k, CeIs cs M A.c4 g k → CeIs cs (F_Ty_write cs M A.ty x y z) A.c4 g k := by
  have hd : (y / 32).toInt = (b / 32 : Nat) := by
    rw [Int32.toInt_div_of_ne_right _ _ (by decide), hy]
    rfl
  have hix : (x * 16 + y / 32).toInt = (a * 16 + b / 32 : Nat) := by
    have : b / 32 < 16 := by omega
    ((try (simp only [vp_in, Int32.toNatClampNeg, Int32.lt_iff_toInt_lt, Int32.le_iff_toInt_le, ← Int32.toInt_inj, Int32.toInt_add, Int32.toInt_sub, Int32.toInt_mul, Int32.reduceToInt, i32_neg1, Nat.reducePow, Int.reducePow, ne_eq, ge_iff_le, gt_iff_lt] at *)) <;> (first | omega | ((simp (disch := omega) only [bm32] at *) <;> omega)))
  have hm : (y - y / 32 * 32).toInt = (b % 32 : Nat) := by
    have := Nat.mod_add_div b 32
    have : b / 32 < 16 := by omega
    ((try (simp only [vp_in, Int32.toNatClampNeg, Int32.lt_iff_toInt_lt, Int32.le_iff_toInt_le, ← Int32.toInt_inj, Int32.toInt_add, Int32.toInt_sub, Int32.toInt_mul, Int32.reduceToInt, i32_neg1, Nat.reducePow, Int.reducePow, ne_eq, ge_iff_le, gt_iff_lt] at *)) <;> (first | omega | ((simp (disch := omega) only [bm32] at *) <;> omega)))
  obtain ⟨s3, v3⟩ := ce_nat (lim := lim) h.c3 hix
  have o0 := L.ty_0.1
  have q3 : cOq 2 M (some A.c3) := ⟨_, rfl, h.c3.ok⟩
  obtain ⟨⟨n01, n02, n03, n04⟩, ⟨n12, n13, n14⟩, ⟨n23, n24⟩, n34⟩ := L.nd
  have one : ∀ v : Int32, (∀ i, i < 32 → (Bit v i ↔ if i = b % 32 then z ≠ 0 else Bit (g3 (a * 16 + b / 32)) i)) → S_Ce_put cs lim M A.c3 (x * 16 + y / 32) v ∧ ∃ g3' k3', TyC cs A (F_Ce_put cs M A.c3 (x * 16 + y / 32) v) τ g0 g1 g2 g3' k0 k1 k2 k3' ∧ Ext [(2, 0)] [(2, 0)] true M (F_Ce_put cs M A.c3 (x * 16 + y / 32) v) ∧ (∀ a' b', b' < 512 → (Bit (g3' (a' * 16 + b' / 32)) (b' % 32) ↔ if a' = a ∧ b' = b then z ≠ 0 else Bit (g3 (a' * 16 + b' / 32)) (b' % 32))) ∧
      (k3 ≤ k3' ∧ (F_Ce_put cs M A.c3 (x * 16 + y / 32) v).2.1 + k3 ≤ M.2.1 + k3' ∧ (F_Ce_put cs M A.c3 (x * 16 + y / 32) v).2.2 + 2 * k3 ≤ M.2.2 + 2 * k3' ∧ (k3' ≤ k3 ∨ k3' ≤ 16384)) ∧ ∀ g k, CeIs cs M A.c4 g k → CeIs cs (F_Ce_put cs M A.c3 (x * 16 + y / 32) v) A.c4 g k := by
    intro v hv
    obtain ⟨sp, k3', p⟩ := ce_put (lim := lim) L.mok L.bnd h.c3 (x * 16 + y / 32) v hix (by omega) hl1 (by omega)
    have pp := p.pot
    refine ⟨sp, _, k3', ⟨p.oth _ _ _ n03 h.c0, p.oth _ _ _ n13 h.c1, p.oth _ _ _ n23 h.c2, p.is, h.g, h.len, h.wt⟩, p.ext, ?_, ⟨pp.1, pp.2.1, pp.2.2.1, by omega⟩, fun g k hk => p.oth _ _ _ (Ne.symm n34) hk⟩
    intro a' b' hb'
    have ci := cell_inj (a := a) (a' := a') hb hb'
    rw [upd_at]
    by_cases e1 : a' * 16 + b' / 32 = a * 16 + b / 32
    · rw [if_pos e1, hv _ (Nat.mod_lt _ (by decide))]
      by_cases e2 : b' % 32 = b % 32
      · rw [if_pos e2, if_pos (ci.mp ⟨e1, e2⟩)]
      · rw [if_neg e2, if_neg (fun q => e2 (ci.mpr q).2), e1]
    · rw [if_neg e1, if_neg (fun q => e1 (ci.mpr q).1)]
  unfold S_Ty_write F_Ty_write
  simp only [L.ty_3.2, Option.getD_some, mbind_eq, v3]
  by_cases hz : z = 0
  · simp only [if_pos hz]
    obtain ⟨r1, r2⟩ := one (g3 (a * 16 + b / 32) &&& ((1 <<< ((y - y / 32 * 32) &&& 31)) ^^^ (-1))) (fun i hi => by
      rw [bit_not _ _ hm (Nat.mod_lt _ (by decide)) hi]
      by_cases q : i = b % 32
      · rw [if_pos q]; simp [q, hz]
      · rw [if_neg q]; simp [q])
    exact ⟨⟨o0, o0, q3, s3, q3, r1, trivial⟩, r2⟩
  · simp only [if_neg hz]
    obtain ⟨r1, r2⟩ := one (g3 (a * 16 + b / 32) ||| (1 <<< ((y - y / 32 * 32) &&& 31))) (fun i hi => by
      rw [bit_or _ _ hm (Nat.mod_lt _ (by decide)) hi]
      by_cases q : i = b % 32
      · rw [if_pos q]; simp [q, hz]
      · rw [if_neg q]; simp [q])
    exact ⟨⟨o0, o0, q3, s3, q3, r1, trivial⟩, r2⟩
end
end
section
/-! pure rows, the class: the number of a type -/
def rl (τ : TT) (g : Nat → Int32) (a b : Nat) : Prop := a = b ∨ (3 ≤ a ∧ 3 ≤ b ∧ pS τ g a b)
def Half (τ : TT) (g : Nat → Int32) (t j : Nat) : Prop := (∀ a b, a < t → b < t → (fitC g a b ↔ rl τ g a b)) ∧ ∀ o, 3 ≤ o → o < j → (fitC g t o ↔ rl τ g t o) ∧ (fitC g o t ↔ rl τ g o t)
theorem fit_w {g g' : Nat → Int32} {a b : Nat} {z : Int32} (h : ∀ a' b', b' < 512 → (Bit (g' (a' * 16 + b' / 32)) (b' % 32) ↔ if a' = a ∧ b' = b then z ≠ 0 else Bit (g (a' * 16 + b' / 32)) (b' % 32))) {p q : Nat} (hq : q < 512) (hne : ¬ (p = a ∧ q = b)) : fitC g' p q ↔ fitC g p q := by
  unfold fitC
  rw [h p q hq, if_neg hne]
theorem fit_s {g g' : Nat → Int32} {a b : Nat} {z : Int32} (h : ∀ a' b', b' < 512 → (Bit (g' (a' * 16 + b' / 32)) (b' % 32) ↔ if a' = a ∧ b' = b then z ≠ 0 else Bit (g (a' * 16 + b' / 32)) (b' % 32))) (hq : b < 512) (hne : a ≠ b) (h3 : 3 ≤ a ∧ 3 ≤ b) : fitC g' a b ↔ z ≠ 0 := by
  unfold fitC
  rw [h a b hq, if_pos ⟨rfl, rfl⟩]
  constructor
  · rintro (q | ⟨-, -, q⟩)
    · exact (hne q).elim
    · exact q
  · intro q
    exact Or.inr ⟨h3.1, h3.2, q⟩
theorem pS_cong {τ : TT} {g g' : Nat → Int32} {t a b : Nat} (hw : WT τ) (h : ∀ p q, p < t → q < t → (fitC g' p q ↔ fitC g p q)) (ha : 3 ≤ a ∧ a ≤ t ∧ a < 3 + τ.length) (hb : 3 ≤ b ∧ b ≤ t ∧ b < 3 + τ.length) : pS τ g' a b ↔ pS τ g a b := by
  have wa := hw a ha.1 ha.2.2
  have wb := hw b hb.1 hb.2.2
  unfold pS
  rw [h _ _ (by omega) (by omega), h _ _ (by omega) (by omega)]
theorem Half.rule {τ : TT} {g : Nat → Int32} {t : Nat} (ht : t + 1 = 3 + τ.length) (h : Half τ g t t) : Rule τ g := fun a b ha hb => by
  show fitC g a b ↔ rl τ g a b
  by_cases h1 : a = b
  · subst h1; exact ⟨fun _ => Or.inl rfl, fun _ => Or.inl rfl⟩
  · by_cases h2 : a < t
    · by_cases h3 : b < t
      · exact h.1 a b h2 h3
      · have : b = t := by omega
        subst this
        by_cases h4 : 3 ≤ a
        · exact (h.2 a h4 h2).2
        · unfold fitC rl; constructor <;> (rintro (q | q) <;> omega)
    · have : a = t := by omega
      subst this
      by_cases h4 : 3 ≤ b
      · exact (h.2 b h4 (by omega)).1
      · unfold fitC rl; constructor <;> (rintro (q | q) <;> omega)
section
variable {cs : Nat → ClassId} {lim : Nat × Nat} {A : Ad} {τ : TT} {g0 g1 g2 : Nat → Int32} {k0 k1 k2 : Nat}
theorem ty_num77 {x1 x2 x3 x4 x5 : Int32} {t : Nat} (ht : t + 1 = 3 + τ.length) (h5 : x5.toInt = t) : ∀ (d j : Nat) (x6 : Int32) (n : Nat) (M : gMem) (g3 : Nat → Int32) (k3 : Nat), t - j = d → 3 ≤ j → j ≤ t → x6.toInt = j → d < n → Lay cs A M → TyC cs A M τ g0 g1 g2 g3 k0 k1 k2 k3 → Half τ g3 t j → k3 ≤ 16384 → M.2.1 + 16385 ≤ lim.1 + k3 → M.2.2 + 49152 ≤ lim.2 + 2 * k3 →
    S_Ty_numberOf_77 cs lim n M A.ty x1 x2 x3 x4 x5 x6 ∧ (F_Ty_numberOf_77 cs n M A.ty x1 x2 x3 x4 x5 x6).1 = x5 ∧ ∃ g3' k3', TyC cs A (F_Ty_numberOf_77 cs n M A.ty x1 x2 x3 x4 x5 x6).2 τ g0 g1 g2 g3' k0 k1 k2 k3' ∧ Rule τ g3' ∧ Ext [(2, 0)] [(2, 0)] true M (F_Ty_numberOf_77 cs n M A.ty x1 x2 x3 x4 x5 x6).2 ∧
      (k3 ≤ k3' ∧ (F_Ty_numberOf_77 cs n M A.ty x1 x2 x3 x4 x5 x6).2.2.1 + k3 ≤ M.2.1 + k3' ∧ (F_Ty_numberOf_77 cs n M A.ty x1 x2 x3 x4 x5 x6).2.2.2 + 2 * k3 ≤ M.2.2 + 2 * k3' ∧ k3' ≤ 16384) ∧ ∀ g k, CeIs cs M A.c4 g k → CeIs cs (F_Ty_numberOf_77 cs n M A.ty x1 x2 x3 x4 x5 x6).2 A.c4 g k := by
  intro d
  induction d with
  | zero =>
    intro j x6 n M g3 k3 hd hj hjt h6 hn L h hh hk hl1 hl2
    obtain ⟨n, rfl⟩ : ∃ m, n = m + 1 := ⟨n - 1, by omega⟩
    have : x5 ≤ x6 := by ((try (simp only [vp_in, Int32.toNatClampNeg, Int32.lt_iff_toInt_lt, Int32.le_iff_toInt_le, ← Int32.toInt_inj, Int32.toInt_add, Int32.toInt_sub, Int32.toInt_mul, Int32.reduceToInt, i32_neg1, Nat.reducePow, Int.reducePow, ne_eq, ge_iff_le, gt_iff_lt] at *)) <;> (first | omega | ((simp (disch := omega) only [bm32] at *) <;> omega)))
    simp only [S_Ty_numberOf_77, F_Ty_numberOf_77, if_pos this]
    have : j = t := by omega
    subst this
    exact ⟨trivial, trivial, g3, k3, h, hh.rule ht, Ext.rf L.mok, ⟨Nat.le_refl _, Nat.le_refl _, Nat.le_refl _, hk⟩, fun _ _ z => z⟩
  | succ d ih =>
    intro j x6 n M g3 k3 hd hj hjt h6 hn L h hh hk hl1 hl2
    obtain ⟨n, rfl⟩ : ∃ m, n = m + 1 := ⟨n - 1, by omega⟩
    have hl := h.len
    have hle : ¬ x5 ≤ x6 := by ((try (simp only [vp_in, Int32.toNatClampNeg, Int32.lt_iff_toInt_lt, Int32.le_iff_toInt_le, ← Int32.toInt_inj, Int32.toInt_add, Int32.toInt_sub, Int32.toInt_mul, Int32.reduceToInt, i32_neg1, Nat.reducePow, Int.reducePow, ne_eq, ge_iff_le, gt_iff_lt] at *)) <;> (first | omega | ((simp (disch := omega) only [bm32] at *) <;> omega)))
    simp only [S_Ty_numberOf_77, F_Ty_numberOf_77, if_neg hle, mbind_eq]
    obtain ⟨s1, r1⟩ := ty_partsSuit (lim := lim) L h h5 h6 ⟨by omega, by omega⟩ ⟨by omega, by omega⟩
    generalize F_Ty_partsSuit cs M A.ty x5 x6 = w4 at r1 ⊢
    obtain ⟨s2, g', k', hT, hE, hb, hp, hc4⟩ := ty_write (lim := lim) L h h5 h6 (z := w4) (by omega) (by omega) (by omega) (by omega)
    generalize F_Ty_write cs M A.ty x5 x6 w4 = M1 at hT hE hp hc4 ⊢
    have L1 := L.ext hE (by decide)
    obtain ⟨s3, r3⟩ := ty_partsSuit (lim := lim) L1 hT h6 h5 ⟨by omega, by omega⟩ ⟨by omega, by omega⟩
    generalize F_Ty_partsSuit cs M1 A.ty x6 x5 = w10 at r3 ⊢
    obtain ⟨s4, g'', k'', hT2, hE2, hb2, hp2, hc42⟩ := ty_write (lim := lim) L1 hT h6 h5 (z := w10) (by omega) (by omega) (by omega) (by omega)
    generalize F_Ty_write cs M1 A.ty x6 x5 w10 = M2 at hT2 hE2 hp2 hc42 ⊢
    have L2 := L1.ext hE2 (by decide)
    have old1 : ∀ p q, p < t → q < t → (fitC g' p q ↔ fitC g3 p q) := fun p q hp hq => fit_w hb (by omega) (by omega)
    have old2 : ∀ p q, p < t → q < t → (fitC g'' p q ↔ fitC g3 p q) := fun p q hp hq => (fit_w hb2 (by omega) (by omega)).trans (old1 p q hp hq)
    have pe : ∀ a b, 3 ≤ a → a ≤ t → 3 ≤ b → b ≤ t → (pS τ g'' a b ↔ pS τ g3 a b) := fun a b q1 q2 q3 q4 => pS_cong h.wt old2 ⟨q1, q2, by omega⟩ ⟨q3, q4, by omega⟩
    have pe1 : pS τ g' j t ↔ pS τ g3 j t := pS_cong h.wt old1 ⟨by omega, by omega, by omega⟩ ⟨by omega, by omega, by omega⟩
    have hh2 : Half τ g'' t (j + 1) := by
      refine ⟨fun a b ha hb => ?_, fun o ho ho2 => ?_⟩
      · rw [old2 a b ha hb, hh.1 a b ha hb]
        unfold rl
        constructor
        · rintro (q | ⟨q1, q2, q3⟩)
          · exact Or.inl q
          · exact Or.inr ⟨q1, q2, (pe a b q1 (by omega) q2 (by omega)).mpr q3⟩
        · rintro (q | ⟨q1, q2, q3⟩)
          · exact Or.inl q
          · exact Or.inr ⟨q1, q2, (pe a b q1 (by omega) q2 (by omega)).mp q3⟩
      · unfold rl
        have hto : ¬ t = o := by omega
        have hto' : ¬ o = t := by omega
        simp only [hto, hto', false_or]
        rw [pe t o (by omega) (by omega) ho (by omega), pe o t ho (by omega) (by omega) (by omega)]
        by_cases hoj : o = j
        · subst hoj
          rw [fit_w hb2 (by omega) (by omega), fit_s hb (by omega) (by omega) ⟨by omega, by omega⟩, fit_s hb2 (by omega) (by omega) ⟨by omega, by omega⟩]
          constructor
          · rcases r1 with ⟨e, q⟩ | ⟨e, q⟩
            · rw [e]; exact ⟨fun _ => ⟨by omega, by omega, q⟩, fun _ => by decide⟩
            · rw [e]; exact ⟨fun z => (z rfl).elim, fun z => (q z.2.2).elim⟩
          · rw [← pe1]
            rcases r3 with ⟨e, q⟩ | ⟨e, q⟩
            · rw [e]; exact ⟨fun _ => ⟨by omega, by omega, q⟩, fun _ => by decide⟩
            · rw [e]; exact ⟨fun z => (z rfl).elim, fun z => (q z.2.2).elim⟩
        · have := hh.2 o ho (by omega)
          unfold rl at this
          simp only [hto, hto', false_or] at this
          rw [fit_w hb2 (by omega) (by omega), fit_w hb (by omega) (by omega), fit_w hb2 (by omega) (by omega), fit_w hb (by omega) (by omega)]
          exact this
    obtain ⟨s5, e5, g5, k5, q1, q2, q3, q4, q5⟩ := ih (j + 1) (x6 + 1) n M2 g'' k'' (by omega) (by omega) (by omega) (by ((try (simp only [vp_in, Int32.toNatClampNeg, Int32.lt_iff_toInt_lt, Int32.le_iff_toInt_le, ← Int32.toInt_inj, Int32.toInt_add, Int32.toInt_sub, Int32.toInt_mul, Int32.reduceToInt, i32_neg1, Nat.reducePow, Int.reducePow, ne_eq, ge_iff_le, gt_iff_lt] at *)) <;> (first | omega | ((simp (disch := omega) only [bm32] at *) <;> omega)))) (by omega) L2 hT2 hh2 (by omega) (by omega) (by omega)
    exact ⟨⟨L.ty_0.1, s1, L.ty_0.1, s2, L1.ty_0.1, s3, L1.ty_0.1, s4, s5⟩, e5, g5, k5, q1, q2, (hE.trans L.mok hE2).trans L.mok q3, ⟨by omega, by omega, by omega, by omega⟩, fun g k z => q5 g k (hc42 g k (hc4 g k z))⟩
end
end
section
/-! pure rows, the class: the number of a type, old or new -/
def TyA (cs : Nat → ClassId) (A : Ad) (M : gMem) (τ : TT) (K : Nat) : Prop := ((cI M A.ty 4).toInt = 3 + τ.length) ∧ (∃ g0 g1 g2 g3 k0 k1 k2 k3, TyC cs A M τ g0 g1 g2 g3 k0 k1 k2 k3 ∧ Rule τ g3 ∧ K = k0 + k1 + k2 + k3 ∧ k0 ≤ 1024 ∧ k1 ≤ 1024 ∧ k2 ≤ 1024 ∧ k3 ≤ 16384)
theorem TyA.cnt {cs : Nat → ClassId} {A : Ad} {M : gMem} {τ : TT} {K : Nat} (self : TyA cs A M τ K) : (cI M A.ty 4).toInt = 3 + τ.length := self.1
theorem TyA.ex {cs : Nat → ClassId} {A : Ad} {M : gMem} {τ : TT} {K : Nat} (self : TyA cs A M τ K) : ∃ g0 g1 g2 g3 k0 k1 k2 k3, TyC cs A M τ g0 g1 g2 g3 k0 k1 k2 k3 ∧ Rule τ g3 ∧ K = k0 + k1 + k2 + k3 ∧ k0 ≤ 1024 ∧ k1 ≤ 1024 ∧ k2 ≤ 1024 ∧ k3 ≤ 16384 := self.2
def Rm (lim : Nat × Nat) (M : gMem) (K : Nat) : Prop := M.2.1 + 19500 ≤ lim.1 + K ∧ M.2.2 + 60000 ≤ lim.2 + 2 * K
def Pot (M M' : gMem) (K K' : Nat) : Prop := K ≤ K' ∧ M'.2.1 + K ≤ M.2.1 + K' ∧ M'.2.2 + 2 * K ≤ M.2.2 + 2 * K'
theorem Pot.rf {M : gMem} {K : Nat} : Pot M M K K := ⟨Nat.le_refl _, Nat.le_refl _, Nat.le_refl _⟩
theorem Pot.trans {M M1 M2 : gMem} {K K1 K2 : Nat} (h : Pot M M1 K K1) (h' : Pot M1 M2 K1 K2) : Pot M M2 K K2 := by
  obtain ⟨a, b, c⟩ := h
  obtain ⟨a', b', c'⟩ := h'
  exact ⟨by omega, by omega, by omega⟩
theorem Rm.pot {lim : Nat × Nat} {M M' : gMem} {K K' : Nat} (h : Rm lim M K) (p : Pot M M' K K') : Rm lim M' K' := by
  obtain ⟨a, b, c⟩ := p
  obtain ⟨d, e⟩ := h
  exact ⟨by omega, by omega⟩
section
variable {cs : Nat → ClassId} {lim : Nat × Nat} {A : Ad} {M : gMem} {τ : TT} {K : Nat}
theorem TyA.ext {W V : List (Nat × Nat)} {al : Bool} {M' : gMem} (h : TyA cs A M τ K) (L : Lay cs A M) (e : Ext W V al M M') (h1 : W.contains (1, 4) = false) (h2 : W.contains (2, 0) = false) (h3 : V.contains (2, 0) = false) : TyA cs A M' τ K := by
  obtain ⟨g0, g1, g2, g3, k0, k1, k2, k3, c, r⟩ := h.ex
  exact ⟨by rw [e.xcI L.ty_0.1 (by simpa using h1)]; exact h.cnt, g0, g1, g2, g3, k0, k1, k2, k3, ⟨c.c0.ext e h2 h3, c.c1.ext e h2 h3, c.c2.ext e h2 h3, c.c3.ext e h2 h3, c.g, c.len, c.wt⟩, r⟩
theorem TyA.len (h : TyA cs A M τ K) : τ.length ≤ 509 := by
  obtain ⟨g0, g1, g2, g3, k0, k1, k2, k3, c, r⟩ := h.ex
  exact c.len
theorem TyA.wt (h : TyA cs A M τ K) : WT τ := by
  obtain ⟨g0, g1, g2, g3, k0, k1, k2, k3, c, r⟩ := h.ex
  exact c.wt
theorem TyA.Kb (h : TyA cs A M τ K) : K ≤ 19456 ∧ 64 ≤ K := by
  obtain ⟨g0, g1, g2, g3, k0, k1, k2, k3, c, r, r1, r2, r3, r4, r5⟩ := h.ex
  have := c.c0.lo
  have := c.c1.lo
  have := c.c2.lo
  have := c.c3.lo
  omega
theorem ty_numberOf (L : Lay cs A M) (h : TyA cs A M τ K) (hr : Rm lim M K) (hlt : 3 + τ.length < 512) {x1 x2 x3 : Int32} {a b : Nat} (h1 : x1.toInt = a) (ha : a < 3 + τ.length) (h2 : x2.toInt = b) (hb : b < 3 + τ.length) {n : Nat} (hn : 600 ≤ n) :
    S_Ty_numberOf cs lim n M A.ty x1 x2 x3 ∧ (F_Ty_numberOf cs n M A.ty x1 x2 x3).1.toInt = (number τ (a, b, x3)).1 ∧ ∃ K', TyA cs A (F_Ty_numberOf cs n M A.ty x1 x2 x3).2 (number τ (a, b, x3)).2 K' ∧ Ext [(1, 4), (2, 0)] [(2, 0)] true M (F_Ty_numberOf cs n M A.ty x1 x2 x3).2 ∧ Pot M (F_Ty_numberOf cs n M A.ty x1 x2 x3).2 K K' ∧ ∀ g k, CeIs cs M A.c4 g k → CeIs cs (F_Ty_numberOf cs n M A.ty x1 x2 x3).2 A.c4 g k := by
  obtain ⟨g0, g1, g2, g3, k0, k1, k2, k3, c, r, rK, r0, r1, r2, r3⟩ := h.ex
  obtain ⟨hr1, hr2⟩ := hr
  obtain ⟨⟨n01, n02, n03, n04⟩, ⟨n12, n13, n14⟩, ⟨n23, n24⟩, n34⟩ := L.nd
  obtain ⟨sf, rf⟩ := ty_find (lim := lim) L c h.cnt h1 h2 (x3 := x3) hn
  unfold S_Ty_numberOf F_Ty_numberOf
  simp only [mbind_eq]
  generalize F_Ty_find cs n M A.ty x1 x2 x3 = w3 at rf ⊢
  rcases rf with ⟨j, hj, hw⟩ | ⟨hj, hw⟩
  · have hne : ¬ w3 = -1 := by ((try (simp only [vp_in, Int32.toNatClampNeg, Int32.lt_iff_toInt_lt, Int32.le_iff_toInt_le, ← Int32.toInt_inj, Int32.toInt_add, Int32.toInt_sub, Int32.toInt_mul, Int32.reduceToInt, i32_neg1, Nat.reducePow, Int.reducePow, ne_eq, ge_iff_le, gt_iff_lt] at *)) <;> (first | omega | ((simp (disch := omega) only [bm32] at *) <;> omega)))
    simp only [if_neg hne]
    have e : number τ (a, b, x3) = (j, τ) := by unfold number; rw [hj]
    rw [e]
    exact ⟨⟨L.ty_0.1, sf, trivial⟩, hw, K, h, Ext.rf L.mok, Pot.rf, fun _ _ z => z⟩
  · have e : number τ (a, b, x3) = (3 + τ.length, τ ++ [(a, b, x3)]) := by unfold number; rw [hj]
    have hc : cI M A.ty 4 < 512 := by have := h.cnt; ((try (simp only [vp_in, Int32.toNatClampNeg, Int32.lt_iff_toInt_lt, Int32.le_iff_toInt_le, ← Int32.toInt_inj, Int32.toInt_add, Int32.toInt_sub, Int32.toInt_mul, Int32.reduceToInt, i32_neg1, Nat.reducePow, Int.reducePow, ne_eq, ge_iff_le, gt_iff_lt] at *)) <;> (first | omega | ((simp (disch := omega) only [bm32] at *) <;> omega)))
    simp only [if_pos hw, if_pos hc]
    rw [e]
    dsimp only
    have hcn : (cI M A.ty 4).toInt = (3 + τ.length : Nat) := by have := h.cnt; omega
    generalize cI M A.ty 4 = t at hcn hc ⊢
    rw [L.ty_0.2]
    simp only [Option.getD_some]
    obtain ⟨s0, k0', p0⟩ := ce_put (lim := lim) L.mok L.bnd c.c0 t x1 hcn (by omega) (by omega) (by omega)
    generalize F_Ce_put cs M A.c0 t x1 = M1 at p0 ⊢
    have L1 := L.ext p0.ext (by decide)
    have pp0 := p0.pot
    rw [L1.ty_1.2]
    simp only [Option.getD_some]
    have c1' := p0.oth _ _ _ (Ne.symm n01) c.c1
    obtain ⟨s1, k1', p1⟩ := ce_put (lim := lim) L1.mok L1.bnd c1' t x2 hcn (by omega) (by omega) (by omega)
    generalize F_Ce_put cs M1 A.c1 t x2 = M2 at p1 ⊢
    have L2 := L1.ext p1.ext (by decide)
    have pp1 := p1.pot
    rw [L2.ty_2.2]
    simp only [Option.getD_some]
    have c2' := p1.oth _ _ _ (Ne.symm n12) (p0.oth _ _ _ (Ne.symm n02) c.c2)
    obtain ⟨s2, k2', p2⟩ := ce_put (lim := lim) L2.mok L2.bnd c2' t x3 hcn (by omega) (by omega) (by omega)
    generalize F_Ce_put cs M2 A.c2 t x3 = M3 at p2 ⊢
    have L3 := L2.ext p2.ext (by decide)
    have pp2 := p2.pot
    have hcnt3 : cI M3 A.ty 4 = cI M A.ty 4 := by
      rw [p2.ext.xcI L2.ty_0.1 (by decide), p1.ext.xcI L1.ty_0.1 (by decide), p0.ext.xcI L.ty_0.1 (by decide)]
    have e4 : Ext [(1, 4)] [] true M3 (cP 1 M3 A.ty 4 (.int (cI M3 A.ty 4 + 1))) := (Ext.rf L3.mok).putI 4 L3.ty_0.1 (by decide) (by decide)
    have hcnt4 : (cI (cP 1 M3 A.ty 4 (.int (cI M3 A.ty 4 + 1))) A.ty 4).toInt = 3 + (τ ++ [(a, b, x3)]).length := by
      rw [cI_put L3.ty_0.1 (by decide), hcnt3, List.length_append]
      have := h.cnt
      simp only [List.length_cons, List.length_nil]
      ((try (simp only [vp_in, Int32.toNatClampNeg, Int32.lt_iff_toInt_lt, Int32.le_iff_toInt_le, ← Int32.toInt_inj, Int32.toInt_add, Int32.toInt_sub, Int32.toInt_mul, Int32.reduceToInt, i32_neg1, Nat.reducePow, Int.reducePow, ne_eq, ge_iff_le, gt_iff_lt] at *)) <;> (first | omega | ((simp (disch := omega) only [bm32] at *) <;> omega)))
    have hs4 : (cP 1 M3 A.ty 4 (.int (cI M3 A.ty 4 + 1))).2 = M3.2 := rfl
    generalize cP 1 M3 A.ty 4 (.int (cI M3 A.ty 4 + 1)) = M4 at e4 hcnt4 hs4 ⊢
    have L4 := L3.ext e4 (by decide)
    have hlen' : (τ ++ [(a, b, x3)]).length = τ.length + 1 := by simp
    have hwt : WT (τ ++ [(a, b, x3)]) := by
      intro u hu hu2
      rw [hlen'] at hu2
      by_cases hu3 : u < 3 + τ.length
      · obtain ⟨z1, z2, z3⟩ := tA_app (x := (a, b, x3)) hu hu3
        rw [z1, z2]
        exact c.wt u hu hu3
      · have : u = 3 + τ.length := by omega
        subst this
        obtain ⟨z1, z2, z3⟩ := tA_new (τ := τ) (x := (a, b, x3))
        rw [z1, z2]
        exact ⟨ha, hb⟩
    have hg : TyG (τ ++ [(a, b, x3)]) (upd g0 (3 + τ.length) x1) (upd g1 (3 + τ.length) x2) (upd g2 (3 + τ.length) x3) := by
      intro u hu hu2
      rw [hlen'] at hu2
      by_cases hu3 : u < 3 + τ.length
      · obtain ⟨z1, z2, z3⟩ := tA_app (x := (a, b, x3)) hu hu3
        rw [z1, z2, z3, upd_at, upd_at, upd_at, if_neg (by omega), if_neg (by omega), if_neg (by omega)]
        exact c.g u hu hu3
      · have : u = 3 + τ.length := by omega
        subst this
        obtain ⟨z1, z2, z3⟩ := tA_new (τ := τ) (x := (a, b, x3))
        rw [z1, z2, z3, upd_at, upd_at, upd_at, if_pos rfl, if_pos rfl, if_pos rfl]
        exact ⟨h1, h2, rfl⟩
    have hT4 : TyC cs A M4 (τ ++ [(a, b, x3)]) (upd g0 (3 + τ.length) x1) (upd g1 (3 + τ.length) x2) (upd g2 (3 + τ.length) x3) g3 k0' k1' k2' k3 := by
      refine ⟨(p2.oth _ _ _ n02 (p1.oth _ _ _ n01 p0.is)).ext e4 (by decide) (by decide), (p2.oth _ _ _ n12 p1.is).ext e4 (by decide) (by decide), p2.is.ext e4 (by decide) (by decide), (p2.oth _ _ _ (Ne.symm n23) (p1.oth _ _ _ (Ne.symm n13) (p0.oth _ _ _ (Ne.symm n03) c.c3))).ext e4 (by decide) (by decide), hg, by rw [hlen']; omega, hwt⟩
    have hh : Half (τ ++ [(a, b, x3)]) g3 (3 + τ.length) 3 := by
      refine ⟨fun p q hp hq => ?_, fun o h3 h3' => by omega⟩
      have := r p q hp hq
      unfold rl pS
      by_cases h3 : 3 ≤ p ∧ 3 ≤ q
      · obtain ⟨y1, y2, y3⟩ := tA_app (x := (a, b, x3)) h3.1 hp
        obtain ⟨z1, z2, z3⟩ := tA_app (x := (a, b, x3)) h3.2 hq
        rw [y1, y2, y3, z1, z2, z3]
        exact this
      · rw [this]
        constructor <;> (rintro (z | ⟨z1, z2, -⟩) <;> first | exact Or.inl z | exact absurd ⟨z1, z2⟩ h3)
    have hm1 : M4.2.1 = M3.2.1 := by rw [hs4]
    have hm2 : M4.2.2 = M3.2.2 := by rw [hs4]
    obtain ⟨s5, e5, g5, k5, q1, q2, q3, q4, q5⟩ := ty_num77 (cs := cs) (lim := lim) (A := A) (x1 := x1) (x2 := x2) (x3 := x3) (x4 := w3) (x5 := t) (t := 3 + τ.length) (by rw [hlen']; omega) hcn (3 + τ.length - 3) 3 3 n M4 g3 k3 rfl (by omega) (by omega) (by decide) (by omega) L4 hT4 hh r3 (by omega) (by omega)
    have hcn5 := q3.xcI L4.ty_0.1 (show (1, 4) ∉ [(2, 0)] by decide)
    generalize F_Ty_numberOf_77 cs n M4 A.ty x1 x2 x3 w3 t 3 = w at s5 e5 q1 q3 q4 q5 hcn5 ⊢
    refine ⟨⟨L.ty_0.1, sf, L.ty_0.1, L.ty_0.1, L.ty_0.1, ⟨_, rfl, c.c0.ok⟩, s0, L1.ty_0.1, ⟨_, rfl, c1'.ok⟩, s1, L2.ty_0.1, ⟨_, rfl, c2'.ok⟩, s2, L3.ty_0.1, L3.ty_0.1, s5⟩, by rw [e5]; exact hcn, k0' + k1' + k2' + k5, ⟨by rw [hcn5]; exact hcnt4, _, _, _, g5, k0', k1', k2', k5, q1, q2, rfl, by omega, by omega, by omega, by omega⟩, ?_, ⟨by omega, by omega, by omega⟩, fun g k z => q5 g k ((p2.oth _ _ _ (Ne.symm n24) (p1.oth _ _ _ (Ne.symm n14) (p0.oth _ _ _ (Ne.symm n04) z))).ext e4 (by decide) (by decide))⟩
    have E1 : Ext [(1, 4), (2, 0)] [(2, 0)] true M M1 := p0.ext.mono (by decide) (by decide) (by decide)
    exact (((E1.then L.mok p1.ext (by decide) (by decide) (by decide)).then L.mok p2.ext (by decide) (by decide) (by decide)).then L.mok e4 (by decide) (by decide) (by decide)).then L.mok q3 (by decide) (by decide) (by decide)
end
end
section
/-! pure rows, the class: nodes and clauses -/
def NodeAt (M : gMem) (a : Nat) (v : Nat → Int32) : Prop := cOk 4 M a ∧ ∀ k, k < 11 → cI M a k = v k
def ClauseAt (M : gMem) (a : Nat) (v : Nat → Int32) : Prop := cOk 5 M a ∧ ∀ k, k < 4 → cI M a k = v k
theorem NodeAt.ext {W V : List (Nat × Nat)} {al : Bool} {M M' : gMem} {a : Nat} {v : Nat → Int32} (h : NodeAt M a v) (e : Ext W V al M M') (hW : W.all (fun w => w.1 != 4) = true) : NodeAt M' a v := by
  refine ⟨e.xcOk h.1, fun k hk => ?_⟩
  rw [e.xcI h.1 (fun z => by have := List.all_eq_true.mp hW _ z; simp at this)]
  exact h.2 k hk
theorem ClauseAt.ext {W V : List (Nat × Nat)} {al : Bool} {M M' : gMem} {a : Nat} {v : Nat → Int32} (h : ClauseAt M a v) (e : Ext W V al M M') (hW : W.all (fun w => w.1 != 5) = true) : ClauseAt M' a v := by
  refine ⟨e.xcOk h.1, fun k hk => ?_⟩
  rw [e.xcI h.1 (fun z => by have := List.all_eq_true.mp hW _ z; simp at this)]
  exact h.2 k hk
theorem cOk_put {ci : Nat} {M : gMem} {a k b cj : Nat} {v : Value} (h2 : (ckd ci).getD k 0 = 2 → ∃ r : Option Nat, v = va_rf r) (h3 : (ckd ci).getD k 0 ≠ 2 → ∃ x : Int32, v = .int x) (ho : cOk ci M a) (hb : cOk cj M b) : cOk cj (cP ci M a k v) b := by
  by_cases q : b = a
  · subst q
    have := hb.uniq ho
    subst this
    obtain ⟨fs, e1, e2⟩ := hb
    unfold cP
    rw [cO_of e1]
    exact ⟨_, gup_s, e2.set h2 h3⟩
  · exact (cOk_cong (by unfold cP; exact gup_n q)).mpr hb
theorem cOk_putI {ci : Nat} {M : gMem} {a k b cj : Nat} {x : Int32} (h2 : (ckd ci).getD k 0 ≠ 2) (ho : cOk ci M a) (hb : cOk cj M b) : cOk cj (cP ci M a k (.int x)) b := cOk_put (fun z => (h2 z).elim) (fun _ => ⟨x, rfl⟩) ho hb
theorem ckd4 {k : Nat} (hk : k < 11) : (ckd 4).getD k 0 ≠ 2 := by revert hk; revert k; decide
theorem ckd5 {k : Nat} (hk : k < 4) : (ckd 5).getD k 0 ≠ 2 := by revert hk; revert k; decide
theorem NodeAt.put {M : gMem} {a : Nat} {v : Nat → Int32} (h : NodeAt M a v) {k : Nat} (hk : k < 11) (x : Int32) : NodeAt (cP 4 M a k (.int x)) a (upd v k x) := by
  refine ⟨cOk_putI (ckd4 hk) h.1 h.1, fun j hj => ?_⟩
  rw [upd_at]
  by_cases q : j = k
  · subst q; rw [if_pos rfl, cI_put h.1 (by exact hk)]
  · rw [if_neg q, cI_put_ne (Or.inr q)]; exact h.2 j hj
theorem NodeAt.other {M : gMem} {a b ci k : Nat} {w : Value} {v : Nat → Int32} (h : NodeAt M b v) (hne : b ≠ a) : NodeAt (cP ci M a k w) b v := by
  refine ⟨(cOk_cong (by unfold cP; exact gup_n hne)).mpr h.1, fun j hj => ?_⟩
  rw [cI_put_ne (Or.inl hne)]
  exact h.2 j hj
def NsIs (A : Ad) (M : gMem) (N C F : Nat) (nd cd : Nat → Nat → Int32) : Prop := ((cI M A.ns 4).toInt = N) ∧ (N ≤ 200) ∧ ((cI M A.ns 5).toInt = C) ∧ (C ≤ 40) ∧ ((cI M A.ns 6).toInt = F) ∧ (F ≤ C) ∧ (∀ i, i < N → ∃ a, aQ M A.nn i = some a ∧ NodeAt M a (nd i)) ∧ (∀ j, j < C → ∃ a, aQ M A.cl j = some a ∧ ClauseAt M a (cd j))
theorem NsIs.n {A : Ad} {M : gMem} {N C F : Nat} {nd cd : Nat → Nat → Int32} (self : NsIs A M N C F nd cd) : (cI M A.ns 4).toInt = N := self.1
theorem NsIs.hn {A : Ad} {M : gMem} {N C F : Nat} {nd cd : Nat → Nat → Int32} (self : NsIs A M N C F nd cd) : N ≤ 200 := self.2.1
theorem NsIs.c {A : Ad} {M : gMem} {N C F : Nat} {nd cd : Nat → Nat → Int32} (self : NsIs A M N C F nd cd) : (cI M A.ns 5).toInt = C := self.2.2.1
theorem NsIs.hc {A : Ad} {M : gMem} {N C F : Nat} {nd cd : Nat → Nat → Int32} (self : NsIs A M N C F nd cd) : C ≤ 40 := self.2.2.2.1
theorem NsIs.f {A : Ad} {M : gMem} {N C F : Nat} {nd cd : Nat → Nat → Int32} (self : NsIs A M N C F nd cd) : (cI M A.ns 6).toInt = F := self.2.2.2.2.1
theorem NsIs.hf {A : Ad} {M : gMem} {N C F : Nat} {nd cd : Nat → Nat → Int32} (self : NsIs A M N C F nd cd) : F ≤ C := self.2.2.2.2.2.1
theorem NsIs.nds {A : Ad} {M : gMem} {N C F : Nat} {nd cd : Nat → Nat → Int32} (self : NsIs A M N C F nd cd) : ∀ i, i < N → ∃ a, aQ M A.nn i = some a ∧ NodeAt M a (nd i) := self.2.2.2.2.2.2.1
theorem NsIs.cls {A : Ad} {M : gMem} {N C F : Nat} {nd cd : Nat → Nat → Int32} (self : NsIs A M N C F nd cd) : ∀ j, j < C → ∃ a, aQ M A.cl j = some a ∧ ClauseAt M a (cd j) := self.2.2.2.2.2.2.2
section
variable {cs : Nat → ClassId} {lim : Nat × Nat} {A : Ad} {M : gMem} {N C F : Nat} {nd cd : Nat → Nat → Int32}
theorem NsIs.ext {W V : List (Nat × Nat)} {al : Bool} {M' : gMem} (h : NsIs A M N C F nd cd) (L : Lay cs A M) (e : Ext W V al M M') (hW : W.all (fun w => w.1 != 3 && w.1 != 4 && w.1 != 5) = true) (h0 : V.contains (3, 0) = false) (h1 : V.contains (3, 1) = false) : NsIs A M' N C F nd cd := by
  have w3 : ∀ k, (3, k) ∉ W := fun k z => by have := List.all_eq_true.mp hW _ z; simp at this
  have w4 : W.all (fun w => w.1 != 4) = true := List.all_eq_true.mpr fun w hw => by have := List.all_eq_true.mp hW w hw; simp at this ⊢; exact this.1.2
  have w5 : W.all (fun w => w.1 != 5) = true := List.all_eq_true.mpr fun w hw => by have := List.all_eq_true.mp hW w hw; simp at this ⊢; exact this.2
  have o3 := L.ns_0.1
  refine ⟨by rw [e.xcI o3 (w3 4)]; exact h.n, h.hn, by rw [e.xcI o3 (w3 5)]; exact h.c, h.hc, by rw [e.xcI o3 (w3 6)]; exact h.f, h.hf, fun i hi => ?_, fun j hj => ?_⟩
  · obtain ⟨a, q1, q2⟩ := h.nds i hi
    exact ⟨a, by rw [e.xaQ L.nn.1 (L.nno.notV (by simpa using h0))]; exact q1, q2.ext e w4⟩
  · obtain ⟨a, q1, q2⟩ := h.cls j hj
    exact ⟨a, by rw [e.xaQ L.cl.1 (L.clo.notV (by simpa using h1))]; exact q1, q2.ext e w5⟩
theorem ns_has (L : Lay cs A M) (h : NsIs A M N C F nd cd) (x : Int32) : S_Ns_has cs lim M A.ns x ∧ F_Ns_has cs M A.ns x = if 0 ≤ x.toInt ∧ x.toInt < N then 1 else 0 := by
  have hn := h.n
  unfold S_Ns_has F_Ns_has
  by_cases h1 : x < 0
  · simp only [if_pos h1]
    rw [if_neg (by ((try (simp only [vp_in, Int32.toNatClampNeg, Int32.lt_iff_toInt_lt, Int32.le_iff_toInt_le, ← Int32.toInt_inj, Int32.toInt_add, Int32.toInt_sub, Int32.toInt_mul, Int32.reduceToInt, i32_neg1, Nat.reducePow, Int.reducePow, ne_eq, ge_iff_le, gt_iff_lt] at *)) <;> (first | omega | ((simp (disch := omega) only [bm32] at *) <;> omega))))]
    exact ⟨trivial, rfl⟩
  · simp only [if_neg h1]
    by_cases h2 : cI M A.ns 4 ≤ x
    · simp only [if_pos h2]
      rw [if_neg (by ((try (simp only [vp_in, Int32.toNatClampNeg, Int32.lt_iff_toInt_lt, Int32.le_iff_toInt_le, ← Int32.toInt_inj, Int32.toInt_add, Int32.toInt_sub, Int32.toInt_mul, Int32.reduceToInt, i32_neg1, Nat.reducePow, Int.reducePow, ne_eq, ge_iff_le, gt_iff_lt] at *)) <;> (first | omega | ((simp (disch := omega) only [bm32] at *) <;> omega))))]
      exact ⟨⟨L.ns_0.1, trivial⟩, rfl⟩
    · simp only [if_neg h2]
      rw [if_pos (by ((try (simp only [vp_in, Int32.toNatClampNeg, Int32.lt_iff_toInt_lt, Int32.le_iff_toInt_le, ← Int32.toInt_inj, Int32.toInt_add, Int32.toInt_sub, Int32.toInt_mul, Int32.reduceToInt, i32_neg1, Nat.reducePow, Int.reducePow, ne_eq, ge_iff_le, gt_iff_lt] at *)) <;> (first | omega | ((simp (disch := omega) only [bm32] at *) <;> omega))))]
      exact ⟨⟨L.ns_0.1, trivial⟩, rfl⟩
theorem ns_at (L : Lay cs A M) (h : NsIs A M N C F nd cd) {x : Int32} {i : Nat} (hx : x.toInt = i) (hi : i < N) : S_Ns_at cs lim M A.ns x ∧ ∃ a, F_Ns_at cs M A.ns x = some a ∧ aQ M A.nn i = some a ∧ NodeAt M a (nd i) := by
  obtain ⟨s, v⟩ := ns_has (lim := lim) L h x
  rw [if_pos (by omega)] at v
  obtain ⟨a, q1, q2⟩ := h.nds i hi
  have hn := h.hn
  have hxc : x.toNatClampNeg = i := by ((try (simp only [vp_in, Int32.toNatClampNeg, Int32.lt_iff_toInt_lt, Int32.le_iff_toInt_le, ← Int32.toInt_inj, Int32.toInt_add, Int32.toInt_sub, Int32.toInt_mul, Int32.reduceToInt, i32_neg1, Nat.reducePow, Int.reducePow, ne_eq, ge_iff_le, gt_iff_lt] at *)) <;> (first | omega | ((simp (disch := omega) only [bm32] at *) <;> omega)))
  unfold S_Ns_at F_Ns_at
  simp only [mbind_eq, v, if_neg (show ¬ (1 : Int32) = 0 by decide), L.ns_0.2, Option.getD_some, hxc, q1, L.nn.2]
  refine ⟨⟨L.ns_0.1, s, L.ns_0.1, ⟨trivial, L.nn.1⟩, by ((try (simp only [vp_in, Int32.toNatClampNeg, Int32.lt_iff_toInt_lt, Int32.le_iff_toInt_le, ← Int32.toInt_inj, Int32.toInt_add, Int32.toInt_sub, Int32.toInt_mul, Int32.reduceToInt, i32_neg1, Nat.reducePow, Int.reducePow, ne_eq, ge_iff_le, gt_iff_lt] at *)) <;> (first | omega | ((simp (disch := omega) only [bm32] at *) <;> omega))), ?_⟩, a, ?_, rfl, q2⟩
  · simp
  · simp
theorem ns_clauseAt (L : Lay cs A M) (h : NsIs A M N C F nd cd) {x : Int32} {j : Nat} (hx : x.toInt = j) (hj : j < C) : S_Ns_clauseAt cs lim M A.ns x ∧ ∃ a, F_Ns_clauseAt cs M A.ns x = some a ∧ aQ M A.cl j = some a ∧ ClauseAt M a (cd j) := by
  obtain ⟨a, q1, q2⟩ := h.cls j hj
  have hn := h.hc
  have hcc := h.c
  have hxc : x.toNatClampNeg = j := by ((try (simp only [vp_in, Int32.toNatClampNeg, Int32.lt_iff_toInt_lt, Int32.le_iff_toInt_le, ← Int32.toInt_inj, Int32.toInt_add, Int32.toInt_sub, Int32.toInt_mul, Int32.reduceToInt, i32_neg1, Nat.reducePow, Int.reducePow, ne_eq, ge_iff_le, gt_iff_lt] at *)) <;> (first | omega | ((simp (disch := omega) only [bm32] at *) <;> omega)))
  have h1 : ¬ x < 0 := by ((try (simp only [vp_in, Int32.toNatClampNeg, Int32.lt_iff_toInt_lt, Int32.le_iff_toInt_le, ← Int32.toInt_inj, Int32.toInt_add, Int32.toInt_sub, Int32.toInt_mul, Int32.reduceToInt, i32_neg1, Nat.reducePow, Int.reducePow, ne_eq, ge_iff_le, gt_iff_lt] at *)) <;> (first | omega | ((simp (disch := omega) only [bm32] at *) <;> omega)))
  have h2 : ¬ cI M A.ns 5 ≤ x := by ((try (simp only [vp_in, Int32.toNatClampNeg, Int32.lt_iff_toInt_lt, Int32.le_iff_toInt_le, ← Int32.toInt_inj, Int32.toInt_add, Int32.toInt_sub, Int32.toInt_mul, Int32.reduceToInt, i32_neg1, Nat.reducePow, Int.reducePow, ne_eq, ge_iff_le, gt_iff_lt] at *)) <;> (first | omega | ((simp (disch := omega) only [bm32] at *) <;> omega)))
  unfold S_Ns_clauseAt F_Ns_clauseAt
  simp only [if_neg h1, if_neg h2, L.ns_1.2, Option.getD_some, hxc, q1, L.cl.2]
  refine ⟨⟨L.ns_0.1, L.ns_0.1, ⟨trivial, L.cl.1⟩, by ((try (simp only [vp_in, Int32.toNatClampNeg, Int32.lt_iff_toInt_lt, Int32.le_iff_toInt_le, ← Int32.toInt_inj, Int32.toInt_add, Int32.toInt_sub, Int32.toInt_mul, Int32.reduceToInt, i32_neg1, Nat.reducePow, Int.reducePow, ne_eq, ge_iff_le, gt_iff_lt] at *)) <;> (first | omega | ((simp (disch := omega) only [bm32] at *) <;> omega))), ?_⟩, a, ?_, rfl, q2⟩
  · simp
  · simp
end
end
