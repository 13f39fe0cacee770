-- pure rows: A B C D E F
section
/-! pure rows: reading the reference's state, numbers -/
theorem si_1 (σ : mSt) (k : Nat) (x : Int32) (j : Nat) : (mo_si σ k x).1 j = if j = k then x else σ.1 j := rfl
theorem si_2 (σ : mSt) (k : Nat) (x : Int32) : (mo_si σ k x).2 = σ.2 := rfl
theorem sl_1 (σ : mSt) (x : Int64) : (mo_sl σ x).1 = σ.1 := rfl
theorem sl_2 (σ : mSt) (x : Int64) : (mo_sl σ x).2.1 = x := rfl
theorem sl_3 (σ : mSt) (x : Int64) : (mo_sl σ x).2.2 = σ.2.2 := rfl
theorem ai_1 (σ : mSt) (k i : Nat) (x : Int32) : (mo_ai σ k i x).1 = σ.1 := rfl
theorem ai_2 (σ : mSt) (k i : Nat) (x : Int32) : (mo_ai σ k i x).2.1 = σ.2.1 := rfl
theorem ai_3 (σ : mSt) (k i : Nat) (x : Int32) (j q : Nat) : (mo_ai σ k i x).2.2.1 j q = if j = k ∧ q = i then x else σ.2.2.1 j q := by
  simp only [mo_ai, va_up]
  by_cases h : j = k
  · subst h; simp [upd]
  · simp [h]
theorem ai_4 (σ : mSt) (k i : Nat) (x : Int32) : (mo_ai σ k i x).2.2.2 = σ.2.2.2 := rfl
theorem al_1 (σ : mSt) (k i : Nat) (x : Int64) : (mo_al σ k i x).1 = σ.1 := rfl
theorem al_2 (σ : mSt) (k i : Nat) (x : Int64) : (mo_al σ k i x).2.1 = σ.2.1 := rfl
theorem al_3 (σ : mSt) (k i : Nat) (x : Int64) : (mo_al σ k i x).2.2.1 = σ.2.2.1 := rfl
theorem al_4 (σ : mSt) (k i : Nat) (x : Int64) (j q : Nat) : (mo_al σ k i x).2.2.2 j q = if j = k ∧ q = i then x else σ.2.2.2 j q := by
  simp only [mo_al, va_up]
  by_cases h : j = k
  · subst h; simp [vp_updL]
  · simp [h]
theorem bm32 {x : Int} (h : -2147483648 ≤ x ∧ x < 2147483648) : Int.bmod x 4294967296 = x := by
  rw [Int.bmod_eq_of_le] <;> omega
theorem i32_neg1 : (-1 : Int32).toInt = -1 := rfl
end
section
/-! pure rows: the types' table -/
theorem ix520 {x y : Int32} (hx : 0 ≤ x.toInt ∧ x.toInt < 520) (hy : 0 ≤ y.toInt ∧ y.toInt < 520) : (520 * x + y).toNatClampNeg = 520 * x.toInt.toNat + y.toInt.toNat ∧ vp_in (520 * x + y) 270400 := by
  constructor <;> ((try (simp only [vp_in, Int32.toNatClampNeg, Int32.lt_iff_toInt_lt, Int32.le_iff_toInt_le, ← Int32.toInt_inj, Int32.toInt_add, Int32.toInt_sub, Int32.toInt_mul, Int32.reduceToInt, i32_neg1, Nat.reducePow, Int.reducePow, ne_eq, ge_iff_le, gt_iff_lt] at *)) <;> (first | omega | ((simp (disch := omega) only [bm32] at *) <;> omega)))
/-- parts of type t are types below b -/
def TB (σ : mSt) (t : Nat) : Prop := (0 ≤ (σ.2.2.1 20 t).toInt ∧ (σ.2.2.1 20 t).toInt < t) ∧ (0 ≤ (σ.2.2.1 21 t).toInt ∧ (σ.2.2.1 21 t).toInt < t)
abbrev Ta (σ : mSt) (t : Nat) : Nat := (σ.2.2.1 20 t).toInt.toNat
abbrev Tr (σ : mSt) (t : Nat) : Nat := (σ.2.2.1 21 t).toInt.toNat
abbrev Fit (σ : mSt) (t u : Nat) : Prop := σ.2.2.1 23 (520 * t + u) ≠ 0
abbrev Within (x y : Int32) : Prop := x &&& (y ^^^ (-1)) = 0
def FitOk (σ : mSt) (t u : Nat) : Prop := Fit σ t u ↔ t = u ∨ (3 ≤ t ∧ 3 ≤ u ∧ Fit σ (Ta σ u) (Ta σ t) ∧ Fit σ (Tr σ t) (Tr σ u) ∧ Within (σ.2.2.1 22 t) (σ.2.2.1 22 u))
theorem looksFit_ok {σ : mSt} {x y : Int32} (hx : 0 ≤ x.toInt ∧ x.toInt < 520) (hy : 0 ≤ y.toInt ∧ y.toInt < 520) (bx : 3 ≤ x.toInt → TB σ x.toInt.toNat) (bY : 3 ≤ y.toInt → TB σ y.toInt.toNat) :
    S_Mo_looksFit σ x y ∧ (F_Mo_looksFit σ x y).2 = σ ∧ ((F_Mo_looksFit σ x y).1 = 0 ∨ (F_Mo_looksFit σ x y).1 = 1) ∧ ((F_Mo_looksFit σ x y).1 ≠ 0 ↔ x.toInt.toNat = y.toInt.toNat ∨ (3 ≤ x.toInt.toNat ∧ 3 ≤ y.toInt.toNat ∧ Fit σ (Ta σ y.toInt.toNat) (Ta σ x.toInt.toNat) ∧ Fit σ (Tr σ x.toInt.toNat) (Tr σ y.toInt.toNat) ∧ Within (σ.2.2.1 22 x.toInt.toNat) (σ.2.2.1 22 y.toInt.toNat))) := by
  have h3 : (3 : Int32).toInt = 3 := rfl
  unfold S_Mo_looksFit F_Mo_looksFit
  by_cases h : x = y
  · subst h; simp [si_1, si_2, sl_1, sl_2, sl_3, ai_1, ai_2, ai_3, ai_4, al_1, al_2, al_3, al_4]
  rw [if_neg h, if_neg h]
  have hne : x.toInt.toNat ≠ y.toInt.toNat := by intro hh; apply h; apply Int32.toInt_inj.mp; omega
  by_cases h1 : x < 3
  · rw [if_pos h1, if_pos h1]
    have : x.toInt < 3 := by rw [Int32.lt_iff_toInt_lt] at h1; omega
    refine ⟨trivial, rfl, Or.inl rfl, ⟨fun hh => absurd rfl hh, fun hh => ?_⟩⟩
    rcases hh with hh | hh
    · exact absurd hh hne
    · omega
  rw [if_neg h1, if_neg h1]
  by_cases h2 : 3 ≤ y
  · rw [if_pos h2, if_pos h2]
    have hx3 : 3 ≤ x.toInt := by rw [Int32.lt_iff_toInt_lt] at h1; omega
    have hy3 : 3 ≤ y.toInt := by rw [Int32.le_iff_toInt_le] at h2; omega
    obtain ⟨ax, rx⟩ := bx hx3
    obtain ⟨ay, ry⟩ := bY hy3
    have e1 := ix520 (x := σ.2.2.1 20 y.toInt.toNat) (y := σ.2.2.1 20 x.toInt.toNat) (by omega) (by omega)
    have e2 := ix520 (x := σ.2.2.1 21 x.toInt.toNat) (y := σ.2.2.1 21 y.toInt.toNat) (by omega) (by omega)
    have v1 : vp_in x 520 := by ((try (simp only [vp_in, Int32.toNatClampNeg, Int32.lt_iff_toInt_lt, Int32.le_iff_toInt_le, ← Int32.toInt_inj, Int32.toInt_add, Int32.toInt_sub, Int32.toInt_mul, Int32.reduceToInt, i32_neg1, Nat.reducePow, Int.reducePow, ne_eq, ge_iff_le, gt_iff_lt] at *)) <;> (first | omega | ((simp (disch := omega) only [bm32] at *) <;> omega)))
    have v2 : vp_in y 520 := by ((try (simp only [vp_in, Int32.toNatClampNeg, Int32.lt_iff_toInt_lt, Int32.le_iff_toInt_le, ← Int32.toInt_inj, Int32.toInt_add, Int32.toInt_sub, Int32.toInt_mul, Int32.reduceToInt, i32_neg1, Nat.reducePow, Int.reducePow, ne_eq, ge_iff_le, gt_iff_lt] at *)) <;> (first | omega | ((simp (disch := omega) only [bm32] at *) <;> omega)))
    simp only [Int32.toNatClampNeg] at e1 e2 ⊢
    rw [e1.1, e2.1]
    refine ⟨⟨v2, v1, e1.2, ?_⟩, ?_⟩
    · split
      · trivial
      · refine ⟨v1, v2, e2.2, ?_⟩
        split
        · trivial
        · refine ⟨v1, v2, ?_⟩
          split <;> trivial
    · split
      · rename_i g1
        refine ⟨rfl, Or.inl rfl, ⟨fun hh => absurd rfl hh, fun hh => ?_⟩⟩
        rcases hh with hh | hh
        · exact absurd hh hne
        · exact absurd g1 hh.2.2.1
      · rename_i g1
        split
        · rename_i g2
          refine ⟨rfl, Or.inl rfl, ⟨fun hh => absurd rfl hh, fun hh => ?_⟩⟩
          rcases hh with hh | hh
          · exact absurd hh hne
          · exact absurd g2 hh.2.2.2.1
        · rename_i g2
          split
          · rename_i g3
            refine ⟨rfl, Or.inr rfl, ⟨fun _ => Or.inr ⟨by omega, by omega, g1, g2, g3⟩, fun _ => (by decide : (1 : Int32) ≠ 0)⟩⟩
          · rename_i g3
            refine ⟨rfl, Or.inl rfl, ⟨fun hh => absurd rfl hh, fun hh => ?_⟩⟩
            rcases hh with hh | hh
            · exact absurd hh hne
            · exact absurd hh.2.2.2.2 g3
  · rw [if_neg h2, if_neg h2]
    have : y.toInt < 3 := by rw [Int32.le_iff_toInt_le] at h2; omega
    refine ⟨trivial, rfl, Or.inl rfl, ⟨fun hh => absurd rfl hh, fun hh => ?_⟩⟩
    rcases hh with hh | hh
    · exact absurd hh hne
    · omega
theorem FitOk.mono {σ σ' : mSt} {t u : Nat} (h20 : σ'.2.2.1 20 = σ.2.2.1 20) (h21 : σ'.2.2.1 21 = σ.2.2.1 21) (h22 : σ'.2.2.1 22 = σ.2.2.1 22) (h : FitOk σ t u) (he : σ'.2.2.1 23 (520 * t + u) = σ.2.2.1 23 (520 * t + u)) (h1 : 3 ≤ t → 3 ≤ u → σ'.2.2.1 23 (520 * Ta σ u + Ta σ t) = σ.2.2.1 23 (520 * Ta σ u + Ta σ t)) (h2 : 3 ≤ t → 3 ≤ u → σ'.2.2.1 23 (520 * Tr σ t + Tr σ u) = σ.2.2.1 23 (520 * Tr σ t + Tr σ u)) : FitOk σ' t u := by
  unfold FitOk at *
  have e0 : Fit σ' t u ↔ Fit σ t u := by unfold Fit; rw [he]
  rw [e0, h]
  have ta : ∀ k, Ta σ' k = Ta σ k := fun k => by unfold Ta; rw [h20]
  have tr : ∀ k, Tr σ' k = Tr σ k := fun k => by unfold Tr; rw [h21]
  rw [h22]
  constructor
  · rintro (g | ⟨a, b, c, d, e⟩)
    · exact Or.inl g
    · refine Or.inr ⟨a, b, ?_, ?_, e⟩
      · unfold Fit; rw [ta, ta, h1 a b]; exact c
      · unfold Fit; rw [tr, tr, h2 a b]; exact d
  · rintro (g | ⟨a, b, c, d, e⟩)
    · exact Or.inl g
    · refine Or.inr ⟨a, b, ?_, ?_, e⟩
      · unfold Fit at c; rw [ta, ta, h1 a b] at c; exact c
      · unfold Fit at d; rw [tr, tr, h2 a b] at d; exact d
def Tbits (σ : mSt) : Prop := ∀ i, σ.2.2.1 23 i = 0 ∨ σ.2.2.1 23 i = 1
/-- all but the fitting is as it was, and that of the types below t is -/
def FitFr (t : Nat) (σ σ' : mSt) : Prop := σ'.1 = σ.1 ∧ σ'.2.1 = σ.2.1 ∧ σ'.2.2.2 = σ.2.2.2 ∧ (∀ k, k ≠ 23 → σ'.2.2.1 k = σ.2.2.1 k) ∧ ∀ a b, a < t → b < t → σ'.2.2.1 23 (520 * a + b) = σ.2.2.1 23 (520 * a + b)
theorem FitFr.rfl' {t : Nat} {σ : mSt} : FitFr t σ σ := ⟨rfl, rfl, rfl, fun _ _ => rfl, fun _ _ _ _ => rfl⟩
theorem FitFr.trans {t : Nat} {a b c : mSt} (h : FitFr t a b) (g : FitFr t b c) : FitFr t a c :=
  ⟨g.1.trans h.1, g.2.1.trans h.2.1, g.2.2.1.trans h.2.2.1, fun k hk => (g.2.2.2.1 k hk).trans (h.2.2.2.1 k hk), fun x y hx hy => (g.2.2.2.2 x y hx hy).trans (h.2.2.2.2 x y hx hy)⟩
theorem ai_23 (σ : mSt) (i : Nat) (x : Int32) {k : Nat} (h : k ≠ 23) : (mo_ai σ 23 i x).2.2.1 k = σ.2.2.1 k := by
  funext q; simp [si_1, si_2, sl_1, sl_2, sl_3, ai_1, ai_2, ai_3, ai_4, al_1, al_2, al_3, al_4, h]
theorem FitFr.one {t a b : Nat} {σ : mSt} {x : Int32} (ht : t ≤ 520) (hb : b < 520) (h : t ≤ a ∨ t ≤ b) : FitFr t σ (mo_ai σ 23 (520 * a + b) x) :=
  ⟨rfl, rfl, rfl, fun k hk => ai_23 _ _ _ hk, fun c d hc hd => by rw [ai_3, if_neg (by omega)]⟩
theorem typeOf_97_ok {t : Nat} (ht : t < 520) : ∀ (m n : Nat) (σ : mSt) (x y : Int32) (u : Nat), x.toInt = t → y.toInt = u → u ≤ t + 1 → t + 1 - u ≤ m → m < n →
    (∀ a, 3 ≤ a → a ≤ t → TB σ a) → Tbits σ → (∀ a b, a < t → b < t → FitOk σ a b) → (∀ b, b < u → FitOk σ t b ∧ FitOk σ b t) →
    S_Mo_typeOf_97 n σ x y ∧ (F_Mo_typeOf_97 n σ x y).2 = x ∧ FitFr t σ (F_Mo_typeOf_97 n σ x y).1 ∧ Tbits (F_Mo_typeOf_97 n σ x y).1 ∧ (∀ a b, a ≤ t → b ≤ t → FitOk (F_Mo_typeOf_97 n σ x y).1 a b) := by
  intro m
  induction m with
  | zero =>
    intro n σ x y u hx hy hu hm hn hT hB hO hL
    obtain ⟨n, rfl⟩ : ∃ k, n = k + 1 := ⟨n - 1, by omega⟩
    have hc : x < y := by ((try (simp only [vp_in, Int32.toNatClampNeg, Int32.lt_iff_toInt_lt, Int32.le_iff_toInt_le, ← Int32.toInt_inj, Int32.toInt_add, Int32.toInt_sub, Int32.toInt_mul, Int32.reduceToInt, i32_neg1, Nat.reducePow, Int.reducePow, ne_eq, ge_iff_le, gt_iff_lt] at *)) <;> (first | omega | ((simp (disch := omega) only [bm32] at *) <;> omega)))
    simp only [S_Mo_typeOf_97, F_Mo_typeOf_97, if_pos hc]
    refine ⟨trivial, trivial, FitFr.rfl', hB, fun a b ha hb => ?_⟩
    by_cases h1 : a = t
    · subst h1; exact (hL b (by omega)).1
    · by_cases h2 : b = t
      · subst h2; exact (hL a (by omega)).2
      · exact hO a b (by omega) (by omega)
  | succ m ih =>
    intro n σ x y u hx hy hu hm hn hT hB hO hL
    obtain ⟨n, rfl⟩ : ∃ k, n = k + 1 := ⟨n - 1, by omega⟩
    by_cases hc : x < y
    · simp only [S_Mo_typeOf_97, F_Mo_typeOf_97, if_pos hc]
      have hut : u = t + 1 := by ((try (simp only [vp_in, Int32.toNatClampNeg, Int32.lt_iff_toInt_lt, Int32.le_iff_toInt_le, ← Int32.toInt_inj, Int32.toInt_add, Int32.toInt_sub, Int32.toInt_mul, Int32.reduceToInt, i32_neg1, Nat.reducePow, Int.reducePow, ne_eq, ge_iff_le, gt_iff_lt] at *)) <;> (first | omega | ((simp (disch := omega) only [bm32] at *) <;> omega)))
      refine ⟨trivial, trivial, FitFr.rfl', hB, fun a b ha hb => ?_⟩
      by_cases h1 : a = t
      · subst h1; exact (hL b (by omega)).1
      · by_cases h2 : b = t
        · subst h2; exact (hL a (by omega)).2
        · exact hO a b (by omega) (by omega)
    · have hut : u ≤ t := by ((try (simp only [vp_in, Int32.toNatClampNeg, Int32.lt_iff_toInt_lt, Int32.le_iff_toInt_le, ← Int32.toInt_inj, Int32.toInt_add, Int32.toInt_sub, Int32.toInt_mul, Int32.reduceToInt, i32_neg1, Nat.reducePow, Int.reducePow, ne_eq, ge_iff_le, gt_iff_lt] at *)) <;> (first | omega | ((simp (disch := omega) only [bm32] at *) <;> omega)))
      have hxr : 0 ≤ x.toInt ∧ x.toInt < 520 := by omega
      have hyr : 0 ≤ y.toInt ∧ y.toInt < 520 := by omega
      have ex : x.toInt.toNat = t := by omega
      have ey : y.toInt.toNat = u := by omega
      obtain ⟨s1, e1, b1, f1⟩ := looksFit_ok (σ := σ) hxr hyr (fun h => hT _ (by omega) (by omega)) (fun h => hT _ (by omega) (by omega))
      simp only [S_Mo_typeOf_97, F_Mo_typeOf_97, if_neg hc, mbind_eq, e1]
      rw [ex, ey] at f1
      have i1 := ix520 hxr hyr
      have i2 := ix520 hyr hxr
      rw [ex, ey] at i1 i2
      rw [i1.1, i2.1]
      generalize F_Mo_looksFit σ x y = w1 at b1 f1 ⊢
      have fr1 : FitFr t σ (mo_ai σ 23 (520 * t + u) w1.1) := FitFr.one (by omega) (by omega) (Or.inl (Nat.le_refl _))
      generalize hσ1 : mo_ai σ 23 (520 * t + u) w1.1 = σ1 at fr1 ⊢
      have a20 : σ1.2.2.1 20 = σ.2.2.1 20 := fr1.2.2.2.1 20 (by decide)
      have a21 : σ1.2.2.1 21 = σ.2.2.1 21 := fr1.2.2.2.1 21 (by decide)
      have a22 : σ1.2.2.1 22 = σ.2.2.1 22 := fr1.2.2.2.1 22 (by decide)
      have hT1 : ∀ a, 3 ≤ a → a ≤ t → TB σ1 a := fun a h3 h4 => by unfold TB; rw [a20, a21]; exact hT a h3 h4
      obtain ⟨s2, e2, b2, f2⟩ := looksFit_ok (σ := σ1) hyr hxr (fun h => hT1 _ (by omega) (by omega)) (fun h => hT1 _ (by omega) (by omega))
      rw [e2]
      rw [ex, ey] at f2
      generalize F_Mo_looksFit σ1 y x = w2 at b2 f2 ⊢
      have fr2 : FitFr t σ1 (mo_ai σ1 23 (520 * u + t) w2.1) := FitFr.one (by omega) (by omega) (Or.inr (Nat.le_refl _))
      generalize hσ2 : mo_ai σ1 23 (520 * u + t) w2.1 = σ2 at fr2 ⊢
      have fr := fr1.trans fr2
      have c20 : σ2.2.2.1 20 = σ.2.2.1 20 := fr.2.2.2.1 20 (by decide)
      have c21 : σ2.2.2.1 21 = σ.2.2.1 21 := fr.2.2.2.1 21 (by decide)
      have c22 : σ2.2.2.1 22 = σ.2.2.1 22 := fr.2.2.2.1 22 (by decide)
      have hT2 : ∀ a, 3 ≤ a → a ≤ t → TB σ2 a := fun a h3 h4 => by unfold TB; rw [c20, c21]; exact hT a h3 h4
      have hB2 : Tbits σ2 := by
        intro i
        rw [← hσ2, ai_3]
        split
        · exact b2
        · rw [← hσ1, ai_3]
          split
          · exact b1
          · exact hB i
      have low : ∀ a b, 3 ≤ a → a ≤ t → 3 ≤ b → b ≤ t → (Ta σ a < t ∧ Ta σ b < t ∧ Tr σ a < t ∧ Tr σ b < t) := by
        intro a b h1 h2 h3 h4
        have g1 := hT a h1 h2
        have g2 := hT b h3 h4
        unfold TB at g1 g2
        unfold Ta Tr
        omega
      have cell : ∀ a b, (a, b) ≠ (t, u) → (a, b) ≠ (u, t) → a < 520 → b < 520 → σ2.2.2.1 23 (520 * a + b) = σ.2.2.1 23 (520 * a + b) := by
        intro a b h1 h2 h3 h4
        rw [← hσ2, ai_3, if_neg, ← hσ1, ai_3, if_neg]
        · rintro ⟨_, h⟩; apply h1; rw [Prod.mk.injEq]; omega
        · rintro ⟨_, h⟩; apply h2; rw [Prod.mk.injEq]; omega
      have keep : ∀ a b, a ≤ t → b ≤ t → (a, b) ≠ (t, u) → (a, b) ≠ (u, t) → FitOk σ a b → FitOk σ2 a b := by
        intro a b h1 h2 h3 h4 h
        refine h.mono c20 c21 c22 (cell a b h3 h4 (by omega) (by omega)) (fun g1 g2 => ?_) (fun g1 g2 => ?_)
        · have := low a b g1 h1 g2 h2
          exact fr.2.2.2.2 _ _ this.2.1 this.1
        · have := low a b g1 h1 g2 h2
          exact fr.2.2.2.2 _ _ this.2.2.1 this.2.2.2
      have t2a : ∀ k, Ta σ2 k = Ta σ k := fun k => by unfold Ta; rw [c20]
      have t2r : ∀ k, Tr σ2 k = Tr σ k := fun k => by unfold Tr; rw [c21]
      have new1 : FitOk σ2 t u := by
        unfold FitOk
        by_cases htu : t = u
        · subst htu
          constructor
          · intro _; exact Or.inl rfl
          · intro _
            unfold Fit
            rw [← hσ2, ai_3, if_pos (by simp [si_1, si_2, sl_1, sl_2, sl_3, ai_1, ai_2, ai_3, ai_4, al_1, al_2, al_3, al_4])]
            exact f2.mpr (Or.inl rfl)
        have hv : σ2.2.2.1 23 (520 * t + u) = w1.1 := by
          rw [← hσ2, ai_3, if_neg (by omega), ← hσ1, ai_3, if_pos (by simp [si_1, si_2, sl_1, sl_2, sl_3, ai_1, ai_2, ai_3, ai_4, al_1, al_2, al_3, al_4])]
        have e0 : Fit σ2 t u ↔ w1.1 ≠ 0 := by unfold Fit; rw [hv]
        rw [e0, f1, c22]
        constructor
        · rintro (h | ⟨g1, g2, g3, g4, g5⟩)
          · exact Or.inl h
          · have := low t u g1 (Nat.le_refl _) g2 hut
            refine Or.inr ⟨g1, g2, ?_, ?_, g5⟩
            · unfold Fit; rw [t2a, t2a, fr.2.2.2.2 _ _ this.2.1 this.1]; exact g3
            · unfold Fit; rw [t2r, t2r, fr.2.2.2.2 _ _ this.2.2.1 this.2.2.2]; exact g4
        · rintro (h | ⟨g1, g2, g3, g4, g5⟩)
          · exact Or.inl h
          · have := low t u g1 (Nat.le_refl _) g2 hut
            refine Or.inr ⟨g1, g2, ?_, ?_, g5⟩
            · unfold Fit at g3; rw [t2a, t2a, fr.2.2.2.2 _ _ this.2.1 this.1] at g3; exact g3
            · unfold Fit at g4; rw [t2r, t2r, fr.2.2.2.2 _ _ this.2.2.1 this.2.2.2] at g4; exact g4
      have new2 : FitOk σ2 u t := by
        unfold FitOk
        have hv : σ2.2.2.1 23 (520 * u + t) = w2.1 := by
          rw [← hσ2, ai_3, if_pos (by simp [si_1, si_2, sl_1, sl_2, sl_3, ai_1, ai_2, ai_3, ai_4, al_1, al_2, al_3, al_4])]
        have e0 : Fit σ2 u t ↔ w2.1 ≠ 0 := by unfold Fit; rw [hv]
        have t1a : ∀ k, Ta σ1 k = Ta σ k := fun k => by unfold Ta; rw [a20]
        have t1r : ∀ k, Tr σ1 k = Tr σ k := fun k => by unfold Tr; rw [a21]
        rw [e0, f2, c22, a22]
        constructor
        · rintro (h | ⟨g1, g2, g3, g4, g5⟩)
          · exact Or.inl h
          · have := low u t g1 hut g2 (Nat.le_refl _)
            refine Or.inr ⟨g1, g2, ?_, ?_, g5⟩
            · unfold Fit at g3 ⊢; rw [t1a, t1a, fr1.2.2.2.2 _ _ this.2.1 this.1] at g3; rw [t2a, t2a, fr.2.2.2.2 _ _ this.2.1 this.1]; exact g3
            · unfold Fit at g4 ⊢; rw [t1r, t1r, fr1.2.2.2.2 _ _ this.2.2.1 this.2.2.2] at g4; rw [t2r, t2r, fr.2.2.2.2 _ _ this.2.2.1 this.2.2.2]; exact g4
        · rintro (h | ⟨g1, g2, g3, g4, g5⟩)
          · exact Or.inl h
          · have := low u t g1 hut g2 (Nat.le_refl _)
            refine Or.inr ⟨g1, g2, ?_, ?_, g5⟩
            · unfold Fit at g3 ⊢; rw [t2a, t2a, fr.2.2.2.2 _ _ this.2.1 this.1] at g3; rw [t1a, t1a, fr1.2.2.2.2 _ _ this.2.1 this.1]; exact g3
            · unfold Fit at g4 ⊢; rw [t2r, t2r, fr.2.2.2.2 _ _ this.2.2.1 this.2.2.2] at g4; rw [t1r, t1r, fr1.2.2.2.2 _ _ this.2.2.1 this.2.2.2]; exact g4
      have res := ih n σ2 x (y + 1) (u + 1) hx (by ((try (simp only [vp_in, Int32.toNatClampNeg, Int32.lt_iff_toInt_lt, Int32.le_iff_toInt_le, ← Int32.toInt_inj, Int32.toInt_add, Int32.toInt_sub, Int32.toInt_mul, Int32.reduceToInt, i32_neg1, Nat.reducePow, Int.reducePow, ne_eq, ge_iff_le, gt_iff_lt] at *)) <;> (first | omega | ((simp (disch := omega) only [bm32] at *) <;> omega)))) (by omega) (by omega) (by omega) hT2 hB2 (fun a b ha hb => keep a b (by omega) (by omega) (by rw [ne_eq, Prod.mk.injEq]; omega) (by rw [ne_eq, Prod.mk.injEq]; omega) (hO a b ha hb)) (fun b hb => by
        by_cases hbu : b = u
        · subst hbu; exact ⟨new1, new2⟩
        · have := hL b (by omega)
          exact ⟨keep t b (Nat.le_refl _) (by omega) (by rw [ne_eq, Prod.mk.injEq]; omega) (by rw [ne_eq, Prod.mk.injEq]; omega) this.1, keep b t (by omega) (Nat.le_refl _) (by rw [ne_eq, Prod.mk.injEq]; omega) (by rw [ne_eq, Prod.mk.injEq]; omega) this.2⟩)
      exact ⟨⟨s1, i1.2, b1, s2, i2.2, b2, res.1⟩, res.2.1, fr.trans res.2.2.1, res.2.2.2.1, res.2.2.2.2⟩
end
section
/-- the types' table in order, T types -/
def TOk (σ : mSt) (T : Nat) : Prop := ((σ.1 3).toInt = T) ∧ (3 ≤ T) ∧ (T ≤ 520) ∧ (∀ a, 3 ≤ a → a < T → TB σ a) ∧ (Tbits σ) ∧ (∀ a b, a < T → b < T → FitOk σ a b)
theorem TOk.n {σ : mSt} {T : Nat} (self : TOk σ T) : (σ.1 3).toInt = T := self.1
theorem TOk.lo {σ : mSt} {T : Nat} (self : TOk σ T) : 3 ≤ T := self.2.1
theorem TOk.hi {σ : mSt} {T : Nat} (self : TOk σ T) : T ≤ 520 := self.2.2.1
theorem TOk.tb {σ : mSt} {T : Nat} (self : TOk σ T) : ∀ a, 3 ≤ a → a < T → TB σ a := self.2.2.2.1
theorem TOk.bits {σ : mSt} {T : Nat} (self : TOk σ T) : Tbits σ := self.2.2.2.2.1
theorem TOk.fit {σ : mSt} {T : Nat} (self : TOk σ T) : ∀ a b, a < T → b < T → FitOk σ a b := self.2.2.2.2.2
/-- all else is as it was, and the first T types are -/
def TFr (T : Nat) (σ σ' : mSt) : Prop := (σ'.2.1 = σ.2.1) ∧ (σ'.2.2.2 = σ.2.2.2) ∧ (∀ k, k ≠ 3 → k ≠ 4 → σ'.1 k = σ.1 k) ∧ (∀ k, k < 20 ∨ 23 < k → σ'.2.2.1 k = σ.2.2.1 k) ∧ (∀ i, i < T → σ'.2.2.1 20 i = σ.2.2.1 20 i) ∧ (∀ i, i < T → σ'.2.2.1 21 i = σ.2.2.1 21 i) ∧ (∀ i, i < T → σ'.2.2.1 22 i = σ.2.2.1 22 i) ∧ (∀ a b, a < T → b < T → σ'.2.2.1 23 (520 * a + b) = σ.2.2.1 23 (520 * a + b))
theorem TFr.l {T : Nat} {σ σ' : mSt} (self : TFr T σ σ') : σ'.2.1 = σ.2.1 := self.1
theorem TFr.ll {T : Nat} {σ σ' : mSt} (self : TFr T σ σ') : σ'.2.2.2 = σ.2.2.2 := self.2.1
theorem TFr.f {T : Nat} {σ σ' : mSt} (self : TFr T σ σ') : ∀ k, k ≠ 3 → k ≠ 4 → σ'.1 k = σ.1 k := self.2.2.1
theorem TFr.a {T : Nat} {σ σ' : mSt} (self : TFr T σ σ') : ∀ k, k < 20 ∨ 23 < k → σ'.2.2.1 k = σ.2.2.1 k := self.2.2.2.1
theorem TFr.t20 {T : Nat} {σ σ' : mSt} (self : TFr T σ σ') : ∀ i, i < T → σ'.2.2.1 20 i = σ.2.2.1 20 i := self.2.2.2.2.1
theorem TFr.t21 {T : Nat} {σ σ' : mSt} (self : TFr T σ σ') : ∀ i, i < T → σ'.2.2.1 21 i = σ.2.2.1 21 i := self.2.2.2.2.2.1
theorem TFr.t22 {T : Nat} {σ σ' : mSt} (self : TFr T σ σ') : ∀ i, i < T → σ'.2.2.1 22 i = σ.2.2.1 22 i := self.2.2.2.2.2.2.1
theorem TFr.t23 {T : Nat} {σ σ' : mSt} (self : TFr T σ σ') : ∀ a b, a < T → b < T → σ'.2.2.1 23 (520 * a + b) = σ.2.2.1 23 (520 * a + b) := self.2.2.2.2.2.2.2
theorem TFr.rfl' {T : Nat} {σ : mSt} : TFr T σ σ := ⟨rfl, rfl, fun _ _ _ => rfl, fun _ _ => rfl, fun _ _ => rfl, fun _ _ => rfl, fun _ _ => rfl, fun _ _ _ _ => rfl⟩
theorem TFr.trans {T T' : Nat} (hT : T ≤ T') {a b c : mSt} (h : TFr T a b) (g : TFr T' b c) : TFr T a c :=
  ⟨g.l.trans h.l, g.ll.trans h.ll, fun k hk h4 => (g.f k hk h4).trans (h.f k hk h4), fun k hk => (g.a k hk).trans (h.a k hk), fun i hi => (g.t20 i (by omega)).trans (h.t20 i hi), fun i hi => (g.t21 i (by omega)).trans (h.t21 i hi), fun i hi => (g.t22 i (by omega)).trans (h.t22 i hi), fun i j hi hj => (g.t23 i j (by omega) (by omega)).trans (h.t23 i j hi hj)⟩
/-- what typeOf promises -/
def TypeOf (σ : mSt) (T : Nat) (x1 x2 x3 : Int32) (w : Int32 × mSt) : Prop :=
  ∃ T', TOk w.2 T' ∧ T ≤ T' ∧ T' ≤ T + 1 ∧ TFr T σ w.2 ∧ 3 ≤ w.1.toInt ∧ w.1.toInt < T' ∧ w.2.2.2.1 20 w.1.toInt.toNat = x1 ∧ w.2.2.2.1 21 w.1.toInt.toNat = x2 ∧ w.2.2.2.1 22 w.1.toInt.toNat = x3
theorem typeOf_3_new {T : Nat} {σ : mSt} (hT : TOk σ T) (hlt : T < 520) {x1 x2 x3 y : Int32} (h1 : 0 ≤ x1.toInt ∧ x1.toInt < T) (h2 : 0 ≤ x2.toInt ∧ x2.toInt < T) {n : Nat} (hy : y.toInt = T) (hmn : 600 ≤ n) : S_Mo_typeOf_3 (n + 1) σ x1 x2 x3 y ∧ TypeOf σ T x1 x2 x3 (F_Mo_typeOf_3 (n + 1) σ x1 x2 x3 y) := by
  have hn := hT.n
  have hlo := hT.lo
  have hc : σ.1 3 ≤ y := by ((try (simp only [vp_in, Int32.toNatClampNeg, Int32.lt_iff_toInt_lt, Int32.le_iff_toInt_le, ← Int32.toInt_inj, Int32.toInt_add, Int32.toInt_sub, Int32.toInt_mul, Int32.reduceToInt, i32_neg1, Nat.reducePow, Int.reducePow, ne_eq, ge_iff_le, gt_iff_lt] at *)) <;> (first | omega | ((simp (disch := omega) only [bm32] at *) <;> omega)))
  have hv : vp_in (σ.1 3) 520 := by ((try (simp only [vp_in, Int32.toNatClampNeg, Int32.lt_iff_toInt_lt, Int32.le_iff_toInt_le, ← Int32.toInt_inj, Int32.toInt_add, Int32.toInt_sub, Int32.toInt_mul, Int32.reduceToInt, i32_neg1, Nat.reducePow, Int.reducePow, ne_eq, ge_iff_le, gt_iff_lt] at *)) <;> (first | omega | ((simp (disch := omega) only [bm32] at *) <;> omega)))
  have hTn : (σ.1 3).toNatClampNeg = T := by ((try (simp only [vp_in, Int32.toNatClampNeg, Int32.lt_iff_toInt_lt, Int32.le_iff_toInt_le, ← Int32.toInt_inj, Int32.toInt_add, Int32.toInt_sub, Int32.toInt_mul, Int32.reduceToInt, i32_neg1, Nat.reducePow, Int.reducePow, ne_eq, ge_iff_le, gt_iff_lt] at *)) <;> (first | omega | ((simp (disch := omega) only [bm32] at *) <;> omega)))
  simp only [S_Mo_typeOf_3, F_Mo_typeOf_3, if_pos hc, mbind_eq, hTn, ai_1]
  generalize hσ1 : mo_si (mo_ai (mo_ai (mo_ai σ 20 T x1) 21 T x2) 22 T x3) 3 (σ.1 3 + 1) = σ1
  have fr : TFr T σ σ1 := by
    subst hσ1
    refine ⟨rfl, rfl, fun k hk _ => by simp [si_1, si_2, sl_1, sl_2, sl_3, ai_1, ai_2, ai_3, ai_4, al_1, al_2, al_3, al_4, hk], fun k hk => ?_, fun i hi => ?_, fun i hi => ?_, fun i hi => ?_, fun a b ha hb => ?_⟩
    · funext q; show (mo_ai (mo_ai (mo_ai σ 20 T x1) 21 T x2) 22 T x3).2.2.1 k q = _; rw [ai_3, if_neg (by omega), ai_3, if_neg (by omega), ai_3, if_neg (by omega)]
    · simp [si_1, si_2, sl_1, sl_2, sl_3, ai_1, ai_2, ai_3, ai_4, al_1, al_2, al_3, al_4]; omega
    · simp [si_1, si_2, sl_1, sl_2, sl_3, ai_1, ai_2, ai_3, ai_4, al_1, al_2, al_3, al_4]; omega
    · simp [si_1, si_2, sl_1, sl_2, sl_3, ai_1, ai_2, ai_3, ai_4, al_1, al_2, al_3, al_4]; omega
    · simp [si_1, si_2, sl_1, sl_2, sl_3, ai_1, ai_2, ai_3, ai_4, al_1, al_2, al_3, al_4]
  have g20 : σ1.2.2.1 20 T = x1 := by subst hσ1; simp [si_1, si_2, sl_1, sl_2, sl_3, ai_1, ai_2, ai_3, ai_4, al_1, al_2, al_3, al_4]
  have g21 : σ1.2.2.1 21 T = x2 := by subst hσ1; simp [si_1, si_2, sl_1, sl_2, sl_3, ai_1, ai_2, ai_3, ai_4, al_1, al_2, al_3, al_4]
  have g22 : σ1.2.2.1 22 T = x3 := by subst hσ1; simp [si_1, si_2, sl_1, sl_2, sl_3, ai_1, ai_2, ai_3, ai_4, al_1, al_2, al_3, al_4]
  have g3 : (σ1.1 3).toInt = T + 1 := by subst hσ1; simp [si_1, si_2, sl_1, sl_2, sl_3, ai_1, ai_2, ai_3, ai_4, al_1, al_2, al_3, al_4]; ((try (simp only [vp_in, Int32.toNatClampNeg, Int32.lt_iff_toInt_lt, Int32.le_iff_toInt_le, ← Int32.toInt_inj, Int32.toInt_add, Int32.toInt_sub, Int32.toInt_mul, Int32.reduceToInt, i32_neg1, Nat.reducePow, Int.reducePow, ne_eq, ge_iff_le, gt_iff_lt] at *)) <;> (first | omega | ((simp (disch := omega) only [bm32] at *) <;> omega)))
  have tb : ∀ a, 3 ≤ a → a ≤ T → TB σ1 a := by
    intro a ha hb
    by_cases haT : a = T
    · subst haT; unfold TB; rw [g20, g21]; exact ⟨h1, h2⟩
    · have := hT.tb a ha (by omega)
      unfold TB at this ⊢
      rw [fr.t20 a (by omega), fr.t21 a (by omega)]; exact this
  have bits : Tbits σ1 := by intro i; subst hσ1; simpa [si_1, si_2, sl_1, sl_2, sl_3, ai_1, ai_2, ai_3, ai_4, al_1, al_2, al_3, al_4] using hT.bits i
  have ok : ∀ a b, a < T → b < T → FitOk σ1 a b := by
    intro a b ha hb
    have e0 : Fit σ1 a b ↔ Fit σ a b := by unfold Fit; rw [fr.t23 a b ha hb]
    unfold FitOk
    rw [e0, show Fit σ a b ↔ _ from hT.fit a b ha hb, fr.t22 a ha, fr.t22 b hb]
    constructor
    · rintro (h | ⟨a1, a2, a3, a4, a5⟩)
      · exact Or.inl h
      · have ba := hT.tb a a1 ha
        have bb := hT.tb b a2 hb
        unfold TB at ba bb
        refine Or.inr ⟨a1, a2, ?_, ?_, a5⟩
        · unfold Fit Ta; rw [fr.t20 a ha, fr.t20 b hb, fr.t23 _ _ (by omega) (by omega)]; exact a3
        · unfold Fit Tr; rw [fr.t21 a ha, fr.t21 b hb, fr.t23 _ _ (by omega) (by omega)]; exact a4
    · rintro (h | ⟨a1, a2, a3, a4, a5⟩)
      · exact Or.inl h
      · have ba := hT.tb a a1 ha
        have bb := hT.tb b a2 hb
        unfold TB at ba bb
        refine Or.inr ⟨a1, a2, ?_, ?_, a5⟩
        · unfold Fit Ta at a3; rw [fr.t20 a ha, fr.t20 b hb, fr.t23 _ _ (by omega) (by omega)] at a3; exact a3
        · unfold Fit Tr at a4; rw [fr.t21 a ha, fr.t21 b hb, fr.t23 _ _ (by omega) (by omega)] at a4; exact a4
  have r := typeOf_97_ok hlt (T + 1) n σ1 (σ.1 3) 0 0 hn rfl (by omega) (by omega) (by omega) tb bits ok (fun b hb => absurd hb (by omega))
  generalize F_Mo_typeOf_97 n σ1 (σ.1 3) 0 = w at r ⊢
  obtain ⟨s, e, f, bt, fo⟩ := r
  refine ⟨⟨hv, hv, hv, s, trivial⟩, T + 1, ⟨by rw [f.1]; exact_mod_cast g3, by omega, by omega, fun a ha hb => ?_, bt, fun a b ha hb => fo a b (by omega) (by omega)⟩, by omega, by omega, ?_, by show 3 ≤ w.2.toInt; rw [e]; omega, by show w.2.toInt < ((T + 1 : Nat) : Int); rw [e]; omega, ?_, ?_, ?_⟩
  · have := tb a ha (by omega)
    unfold TB at this ⊢
    rw [f.2.2.2.1 20 (by decide), f.2.2.2.1 21 (by decide)]; exact this
  · refine ⟨f.2.1.trans fr.l, f.2.2.1.trans fr.ll, fun k hk h4 => by rw [f.1]; exact fr.f k hk h4, fun k hk => (f.2.2.2.1 k (by omega)).trans (fr.a k hk), fun i hi => ?_, fun i hi => ?_, fun i hi => ?_, fun a b ha hb => (f.2.2.2.2 a b ha hb).trans (fr.t23 a b ha hb)⟩
    · rw [f.2.2.2.1 20 (by decide)]; exact fr.t20 i hi
    · rw [f.2.2.2.1 21 (by decide)]; exact fr.t21 i hi
    · rw [f.2.2.2.1 22 (by decide)]; exact fr.t22 i hi
  · show w.1.2.2.1 20 w.2.toInt.toNat = x1; rw [e, hn, f.2.2.2.1 20 (by decide)]; exact g20
  · show w.1.2.2.1 21 w.2.toInt.toNat = x2; rw [e, hn, f.2.2.2.1 21 (by decide)]; exact g21
  · show w.1.2.2.1 22 w.2.toInt.toNat = x3; rw [e, hn, f.2.2.2.1 22 (by decide)]; exact g22
theorem typeOf_3_ok {T : Nat} {σ : mSt} (hT : TOk σ T) (hlt : T < 520) {x1 x2 x3 : Int32} (h1 : 0 ≤ x1.toInt ∧ x1.toInt < T) (h2 : 0 ≤ x2.toInt ∧ x2.toInt < T) :
    ∀ (m n : Nat) (y : Int32) (u : Nat), y.toInt = u → 3 ≤ u → u ≤ T → T - u ≤ m → m + 600 < n → S_Mo_typeOf_3 n σ x1 x2 x3 y ∧ TypeOf σ T x1 x2 x3 (F_Mo_typeOf_3 n σ x1 x2 x3 y) := by
  have hn := hT.n
  have hlo := hT.lo
  intro m
  induction m with
  | zero =>
    intro n y u hy h3 hu hm hmn
    obtain ⟨n, rfl⟩ : ∃ k, n = k + 1 := ⟨n - 1, by omega⟩
    exact typeOf_3_new hT hlt h1 h2 (by omega) (by omega)
  | succ m ih =>
    intro n y u hy h3 hu hm hmn
    by_cases hc : u = T
    · obtain ⟨n, rfl⟩ : ∃ k, n = k + 1 := ⟨n - 1, by omega⟩
      exact typeOf_3_new hT hlt h1 h2 (by omega) (by omega)
    obtain ⟨n, rfl⟩ : ∃ k, n = k + 1 := ⟨n - 1, by omega⟩
    have hc' : ¬ σ.1 3 ≤ y := by ((try (simp only [vp_in, Int32.toNatClampNeg, Int32.lt_iff_toInt_lt, Int32.le_iff_toInt_le, ← Int32.toInt_inj, Int32.toInt_add, Int32.toInt_sub, Int32.toInt_mul, Int32.reduceToInt, i32_neg1, Nat.reducePow, Int.reducePow, ne_eq, ge_iff_le, gt_iff_lt] at *)) <;> (first | omega | ((simp (disch := omega) only [bm32] at *) <;> omega)))
    have hv : vp_in y 520 := by ((try (simp only [vp_in, Int32.toNatClampNeg, Int32.lt_iff_toInt_lt, Int32.le_iff_toInt_le, ← Int32.toInt_inj, Int32.toInt_add, Int32.toInt_sub, Int32.toInt_mul, Int32.reduceToInt, i32_neg1, Nat.reducePow, Int.reducePow, ne_eq, ge_iff_le, gt_iff_lt] at *)) <;> (first | omega | ((simp (disch := omega) only [bm32] at *) <;> omega)))
    have hyn : y.toNatClampNeg = u := by ((try (simp only [vp_in, Int32.toNatClampNeg, Int32.lt_iff_toInt_lt, Int32.le_iff_toInt_le, ← Int32.toInt_inj, Int32.toInt_add, Int32.toInt_sub, Int32.toInt_mul, Int32.reduceToInt, i32_neg1, Nat.reducePow, Int.reducePow, ne_eq, ge_iff_le, gt_iff_lt] at *)) <;> (first | omega | ((simp (disch := omega) only [bm32] at *) <;> omega)))
    have r := ih n (y + 1) (u + 1) (by ((try (simp only [vp_in, Int32.toNatClampNeg, Int32.lt_iff_toInt_lt, Int32.le_iff_toInt_le, ← Int32.toInt_inj, Int32.toInt_add, Int32.toInt_sub, Int32.toInt_mul, Int32.reduceToInt, i32_neg1, Nat.reducePow, Int.reducePow, ne_eq, ge_iff_le, gt_iff_lt] at *)) <;> (first | omega | ((simp (disch := omega) only [bm32] at *) <;> omega)))) (by omega) (by omega) (by omega) (by omega)
    simp only [S_Mo_typeOf_3, F_Mo_typeOf_3, if_neg hc', hyn]
    refine ⟨⟨hv, ?_⟩, ?_⟩
    · split
      · refine ⟨hv, ?_⟩
        split
        · refine ⟨hv, ?_⟩
          split
          · trivial
          · exact r.1
        · exact r.1
      · exact r.1
    · split
      · rename_i e1
        split
        · rename_i e2
          split
          · rename_i e3
            have : y.toInt.toNat = u := by omega
            refine ⟨T, hT, Nat.le_refl _, by omega, TFr.rfl', ?_, ?_, ?_, ?_, ?_⟩
            · show 3 ≤ y.toInt; omega
            · show y.toInt < T; omega
            · show σ.2.2.1 20 y.toInt.toNat = x1; rw [this]; exact e1
            · show σ.2.2.1 21 y.toInt.toNat = x2; rw [this]; exact e2
            · show σ.2.2.1 22 y.toInt.toNat = x3; rw [this]; exact e3
          · exact r.2
        · exact r.2
      · exact r.2

theorem typeOf_ok {T : Nat} {σ : mSt} (hT : TOk σ T) (hlt : T < 520) {x1 x2 x3 : Int32} (h1 : 0 ≤ x1.toInt ∧ x1.toInt < T) (h2 : 0 ≤ x2.toInt ∧ x2.toInt < T) {n : Nat} (hn : 1200 ≤ n) : S_Mo_typeOf n σ x1 x2 x3 ∧ TypeOf σ T x1 x2 x3 (F_Mo_typeOf n σ x1 x2 x3) := by
  have := hT.lo
  exact typeOf_3_ok hT hlt h1 h2 (T - 3) n 3 3 rfl (by omega) (by omega) (by omega) (by omega)
end
section
/-! pure rows: the nodes' table -/
/-- all is as it was but size and depth of node n -/
def CFr (n : Nat) (σ σ' : mSt) : Prop := (σ'.1 = σ.1) ∧ (σ'.2.1 = σ.2.1) ∧ (σ'.2.2.2 = σ.2.2.2) ∧ (∀ k i, ¬ ((k = 12 ∨ k = 13) ∧ i = n) → σ'.2.2.1 k i = σ.2.2.1 k i)
theorem CFr.f {n : Nat} {σ σ' : mSt} (self : CFr n σ σ') : σ'.1 = σ.1 := self.1
theorem CFr.l {n : Nat} {σ σ' : mSt} (self : CFr n σ σ') : σ'.2.1 = σ.2.1 := self.2.1
theorem CFr.ll {n : Nat} {σ σ' : mSt} (self : CFr n σ σ') : σ'.2.2.2 = σ.2.2.2 := self.2.2.1
theorem CFr.a {n : Nat} {σ σ' : mSt} (self : CFr n σ σ') : ∀ k i, ¬ ((k = 12 ∨ k = 13) ∧ i = n) → σ'.2.2.1 k i = σ.2.2.1 k i := self.2.2.2
theorem CFr.rfl' {n : Nat} {σ : mSt} : CFr n σ σ := ⟨rfl, rfl, rfl, fun _ _ _ => rfl⟩
theorem CFr.trans {n : Nat} {a b c : mSt} (h : CFr n a b) (g : CFr n b c) : CFr n a c :=
  ⟨g.f.trans h.f, g.l.trans h.l, g.ll.trans h.ll, fun k i hk => (g.a k i hk).trans (h.a k i hk)⟩
abbrev Sz (σ : mSt) (i : Nat) : Int := (σ.2.2.1 12 i).toInt
abbrev Dp (σ : mSt) (i : Nat) : Int := (σ.2.2.1 13 i).toInt
theorem counts_ok {σ : mSt} {x y : Int32} {n p : Nat} (hx : x.toInt = n) (hy : y.toInt = p) (hn : n < 200) (hp : p < n) (s1 : 1 ≤ Sz σ n ∧ Sz σ n ≤ 100000) (s2 : 1 ≤ Sz σ p ∧ Sz σ p ≤ 100000) (d1 : 1 ≤ Dp σ n ∧ Dp σ n ≤ 1000) (d2 : 1 ≤ Dp σ p ∧ Dp σ p ≤ 999) :
    S_Mo_counts σ x y ∧ CFr n σ (F_Mo_counts σ x y) ∧ Sz (F_Mo_counts σ x y) n = min 100000 (Sz σ n + Sz σ p) ∧ Dp (F_Mo_counts σ x y) n = max (Dp σ n) (Dp σ p + 1) := by
  have hxn : x.toNatClampNeg = n := by ((try (simp only [vp_in, Int32.toNatClampNeg, Int32.lt_iff_toInt_lt, Int32.le_iff_toInt_le, ← Int32.toInt_inj, Int32.toInt_add, Int32.toInt_sub, Int32.toInt_mul, Int32.reduceToInt, i32_neg1, Nat.reducePow, Int.reducePow, ne_eq, ge_iff_le, gt_iff_lt] at *)) <;> (first | omega | ((simp (disch := omega) only [bm32] at *) <;> omega)))
  have hyn : y.toNatClampNeg = p := by ((try (simp only [vp_in, Int32.toNatClampNeg, Int32.lt_iff_toInt_lt, Int32.le_iff_toInt_le, ← Int32.toInt_inj, Int32.toInt_add, Int32.toInt_sub, Int32.toInt_mul, Int32.reduceToInt, i32_neg1, Nat.reducePow, Int.reducePow, ne_eq, ge_iff_le, gt_iff_lt] at *)) <;> (first | omega | ((simp (disch := omega) only [bm32] at *) <;> omega)))
  have vx : vp_in x 200 := by ((try (simp only [vp_in, Int32.toNatClampNeg, Int32.lt_iff_toInt_lt, Int32.le_iff_toInt_le, ← Int32.toInt_inj, Int32.toInt_add, Int32.toInt_sub, Int32.toInt_mul, Int32.reduceToInt, i32_neg1, Nat.reducePow, Int.reducePow, ne_eq, ge_iff_le, gt_iff_lt] at *)) <;> (first | omega | ((simp (disch := omega) only [bm32] at *) <;> omega)))
  have vy : vp_in y 200 := by ((try (simp only [vp_in, Int32.toNatClampNeg, Int32.lt_iff_toInt_lt, Int32.le_iff_toInt_le, ← Int32.toInt_inj, Int32.toInt_add, Int32.toInt_sub, Int32.toInt_mul, Int32.reduceToInt, i32_neg1, Nat.reducePow, Int.reducePow, ne_eq, ge_iff_le, gt_iff_lt] at *)) <;> (first | omega | ((simp (disch := omega) only [bm32] at *) <;> omega)))
  have hm : ¬ y = -1 := by ((try (simp only [vp_in, Int32.toNatClampNeg, Int32.lt_iff_toInt_lt, Int32.le_iff_toInt_le, ← Int32.toInt_inj, Int32.toInt_add, Int32.toInt_sub, Int32.toInt_mul, Int32.reduceToInt, i32_neg1, Nat.reducePow, Int.reducePow, ne_eq, ge_iff_le, gt_iff_lt] at *)) <;> (first | omega | ((simp (disch := omega) only [bm32] at *) <;> omega)))
  unfold Sz Dp at *
  have hsum : (σ.2.2.1 12 n + σ.2.2.1 12 p).toInt = (σ.2.2.1 12 n).toInt + (σ.2.2.1 12 p).toInt := by ((try (simp only [vp_in, Int32.toNatClampNeg, Int32.lt_iff_toInt_lt, Int32.le_iff_toInt_le, ← Int32.toInt_inj, Int32.toInt_add, Int32.toInt_sub, Int32.toInt_mul, Int32.reduceToInt, i32_neg1, Nat.reducePow, Int.reducePow, ne_eq, ge_iff_le, gt_iff_lt] at *)) <;> (first | omega | ((simp (disch := omega) only [bm32] at *) <;> omega)))
  have j40 : ∀ σ1 : mSt, CFr n σ σ1 → σ1.2.2.1 13 = σ.2.2.1 13 → (σ1.2.2.1 12 n).toInt = min 100000 ((σ.2.2.1 12 n).toInt + (σ.2.2.1 12 p).toInt) → S_Mo_counts_j40 σ1 x y ∧ CFr n σ (F_Mo_counts_j40 σ1 x y) ∧ ((F_Mo_counts_j40 σ1 x y).2.2.1 12 n).toInt = min 100000 ((σ.2.2.1 12 n).toInt + (σ.2.2.1 12 p).toInt) ∧ ((F_Mo_counts_j40 σ1 x y).2.2.1 13 n).toInt = max (σ.2.2.1 13 n).toInt ((σ.2.2.1 13 p).toInt + 1) := by
    intro σ1 fr e13 e12
    have hadd : (σ.2.2.1 13 p + 1).toInt = (σ.2.2.1 13 p).toInt + 1 := by ((try (simp only [vp_in, Int32.toNatClampNeg, Int32.lt_iff_toInt_lt, Int32.le_iff_toInt_le, ← Int32.toInt_inj, Int32.toInt_add, Int32.toInt_sub, Int32.toInt_mul, Int32.reduceToInt, i32_neg1, Nat.reducePow, Int.reducePow, ne_eq, ge_iff_le, gt_iff_lt] at *)) <;> (first | omega | ((simp (disch := omega) only [bm32] at *) <;> omega)))
    simp only [S_Mo_counts_j40, F_Mo_counts_j40, hxn, hyn, e13]
    split
    · rename_i h
      rw [Int32.lt_iff_toInt_lt] at h
      refine ⟨⟨vy, vx, trivial⟩, fr, e12, ?_⟩
      rw [e13]; omega
    · rename_i h
      rw [Int32.lt_iff_toInt_lt] at h
      refine ⟨⟨vy, vx, vy, vx, trivial⟩, fr.trans ⟨rfl, rfl, rfl, fun k i hk => by rw [ai_3, if_neg (by omega)]⟩, ?_, ?_⟩
      · rw [ai_3, if_neg (by omega)]; exact e12
      · rw [ai_3, if_pos ⟨rfl, rfl⟩, hadd]; omega
  simp only [S_Mo_counts, F_Mo_counts, if_neg hm, hxn, hyn, ai_3, and_self, if_true, Int32.le_iff_toInt_le, hsum]
  have h100 : (100000 : Int32).toInt = 100000 := rfl
  split
  · rename_i h
    obtain ⟨a, b⟩ := j40 (mo_ai σ 12 n (σ.2.2.1 12 n + σ.2.2.1 12 p)) ⟨rfl, rfl, rfl, fun k i hk => by rw [ai_3, if_neg (by omega)]⟩ (by funext i; rw [ai_3, if_neg (by omega)]) (by rw [ai_3, if_pos ⟨rfl, rfl⟩, hsum]; omega)
    exact ⟨⟨vx, vy, vx, vx, a⟩, b⟩
  · rename_i h
    obtain ⟨a, b⟩ := j40 (mo_ai (mo_ai σ 12 n (σ.2.2.1 12 n + σ.2.2.1 12 p)) 12 n 100000) ⟨rfl, rfl, rfl, fun k i hk => by rw [ai_3, if_neg (by omega), ai_3, if_neg (by omega)]⟩ (by funext i; rw [ai_3, if_neg (by omega), ai_3, if_neg (by omega)]) (by rw [ai_3, if_pos ⟨rfl, rfl⟩, h100]; omega)
    exact ⟨⟨vx, vy, vx, vx, vx, a⟩, b⟩
theorem counts_none {σ : mSt} {x : Int32} : S_Mo_counts σ x (-1) ∧ F_Mo_counts σ x (-1) = σ := by
  simp [si_1, si_2, sl_1, sl_2, sl_3, ai_1, ai_2, ai_3, ai_4, al_1, al_2, al_3, al_4, S_Mo_counts, F_Mo_counts]
end
section
abbrev K (σ : mSt) (i : Nat) : Int := (σ.2.2.1 5 i).toInt
def sz (σ : mSt) (p : Int32) : Int := if p = -1 then 0 else Sz σ p.toInt.toNat
def csz (σ : mSt) (f : Nat) : Nat → Int
  | 0 => 0
  | m + 1 => csz σ f m + Sz σ (σ.2.2.1 19 (f + m)).toInt.toNat
def Pt (σ : mSt) (i : Nat) (p : Int32) : Prop := p = -1 ∨ (0 ≤ p.toInt ∧ p.toInt < i ∧ Dp σ p.toInt.toNat < Dp σ i)
/-- node i in order -/
def Nd (σ : mSt) (C T i : Nat) : Prop := (0 ≤ K σ i ∧ K σ i ≤ 11) ∧ (Pt σ i (σ.2.2.1 9 i)) ∧ (Pt σ i (σ.2.2.1 10 i)) ∧ (Pt σ i (σ.2.2.1 11 i)) ∧ (4 ≤ K σ i → σ.2.2.1 9 i ≠ -1) ∧ (K σ i = 4 ∨ K σ i = 5 ∨ K σ i = 6 ∨ K σ i = 8 ∨ K σ i = 9 ∨ K σ i = 10 → σ.2.2.1 10 i ≠ -1) ∧ (K σ i = 6 → σ.2.2.1 11 i ≠ -1) ∧ (K σ i = 3 ∨ K σ i = 4 ∨ K σ i = 5 ∨ K σ i = 7 ∨ K σ i = 8 → 0 ≤ (σ.2.2.1 6 i).toInt ∧ (σ.2.2.1 6 i).toInt < 10) ∧ (K σ i = 5 → (0 ≤ (σ.2.2.1 7 i).toInt ∧ (σ.2.2.1 7 i).toInt < 10) ∧ 3 ≤ (σ.2.2.1 8 i).toInt ∧ (σ.2.2.1 8 i).toInt < T) ∧ (K σ i = 7 → 0 ≤ (σ.2.2.1 7 i).toInt ∧ (σ.2.2.1 7 i).toInt < T) ∧ (K σ i = 11 → 0 ≤ (σ.2.2.1 6 i).toInt ∧ (σ.2.2.1 6 i).toInt < 8) ∧ (0 ≤ (σ.2.2.1 15 i).toInt ∧ (K σ i ≠ 8 → (σ.2.2.1 15 i).toInt = 0)) ∧ (K σ i = 8 → 0 ≤ (σ.2.2.1 14 i).toInt ∧ (σ.2.2.1 14 i).toInt + (σ.2.2.1 15 i).toInt ≤ C) ∧ (K σ i = 8 → ∀ j : Nat, (σ.2.2.1 14 i).toInt ≤ j → j < (σ.2.2.1 14 i).toInt + (σ.2.2.1 15 i).toInt → 0 ≤ (σ.2.2.1 19 j).toInt ∧ (σ.2.2.1 19 j).toInt < i ∧ Dp σ (σ.2.2.1 19 j).toInt.toNat < Dp σ i) ∧ (1 ≤ Dp σ i ∧ Dp σ i ≤ i + 1) ∧ (1 ≤ Sz σ i ∧ Sz σ i ≤ 100000) ∧ (Sz σ i < 100000 → 1 + sz σ (σ.2.2.1 9 i) + sz σ (σ.2.2.1 10 i) + sz σ (σ.2.2.1 11 i) + csz σ (σ.2.2.1 14 i).toInt.toNat (σ.2.2.1 15 i).toInt.toNat ≤ Sz σ i)
theorem Nd.k {σ : mSt} {C T i : Nat} (self : Nd σ C T i) : 0 ≤ K σ i ∧ K σ i ≤ 11 := self.1
theorem Nd.pa {σ : mSt} {C T i : Nat} (self : Nd σ C T i) : Pt σ i (σ.2.2.1 9 i) := self.2.1
theorem Nd.pb {σ : mSt} {C T i : Nat} (self : Nd σ C T i) : Pt σ i (σ.2.2.1 10 i) := self.2.2.1
theorem Nd.pc {σ : mSt} {C T i : Nat} (self : Nd σ C T i) : Pt σ i (σ.2.2.1 11 i) := self.2.2.2.1
theorem Nd.ha {σ : mSt} {C T i : Nat} (self : Nd σ C T i) : 4 ≤ K σ i → σ.2.2.1 9 i ≠ -1 := self.2.2.2.2.1
theorem Nd.hb {σ : mSt} {C T i : Nat} (self : Nd σ C T i) : K σ i = 4 ∨ K σ i = 5 ∨ K σ i = 6 ∨ K σ i = 8 ∨ K σ i = 9 ∨ K σ i = 10 → σ.2.2.1 10 i ≠ -1 := self.2.2.2.2.2.1
theorem Nd.hc {σ : mSt} {C T i : Nat} (self : Nd σ C T i) : K σ i = 6 → σ.2.2.1 11 i ≠ -1 := self.2.2.2.2.2.2.1
theorem Nd.nm {σ : mSt} {C T i : Nat} (self : Nd σ C T i) : K σ i = 3 ∨ K σ i = 4 ∨ K σ i = 5 ∨ K σ i = 7 ∨ K σ i = 8 → 0 ≤ (σ.2.2.1 6 i).toInt ∧ (σ.2.2.1 6 i).toInt < 10 := self.2.2.2.2.2.2.2.1
theorem Nd.rc {σ : mSt} {C T i : Nat} (self : Nd σ C T i) : K σ i = 5 → (0 ≤ (σ.2.2.1 7 i).toInt ∧ (σ.2.2.1 7 i).toInt < 10) ∧ 3 ≤ (σ.2.2.1 8 i).toInt ∧ (σ.2.2.1 8 i).toInt < T := self.2.2.2.2.2.2.2.2.1
theorem Nd.fn {σ : mSt} {C T i : Nat} (self : Nd σ C T i) : K σ i = 7 → 0 ≤ (σ.2.2.1 7 i).toInt ∧ (σ.2.2.1 7 i).toInt < T := self.2.2.2.2.2.2.2.2.2.1
theorem Nd.pf {σ : mSt} {C T i : Nat} (self : Nd σ C T i) : K σ i = 11 → 0 ≤ (σ.2.2.1 6 i).toInt ∧ (σ.2.2.1 6 i).toInt < 8 := self.2.2.2.2.2.2.2.2.2.2.1
theorem Nd.cm {σ : mSt} {C T i : Nat} (self : Nd σ C T i) : 0 ≤ (σ.2.2.1 15 i).toInt ∧ (K σ i ≠ 8 → (σ.2.2.1 15 i).toInt = 0) := self.2.2.2.2.2.2.2.2.2.2.2.1
theorem Nd.cf {σ : mSt} {C T i : Nat} (self : Nd σ C T i) : K σ i = 8 → 0 ≤ (σ.2.2.1 14 i).toInt ∧ (σ.2.2.1 14 i).toInt + (σ.2.2.1 15 i).toInt ≤ C := self.2.2.2.2.2.2.2.2.2.2.2.2.1
theorem Nd.ce {σ : mSt} {C T i : Nat} (self : Nd σ C T i) : K σ i = 8 → ∀ j : Nat, (σ.2.2.1 14 i).toInt ≤ j → j < (σ.2.2.1 14 i).toInt + (σ.2.2.1 15 i).toInt → 0 ≤ (σ.2.2.1 19 j).toInt ∧ (σ.2.2.1 19 j).toInt < i ∧ Dp σ (σ.2.2.1 19 j).toInt.toNat < Dp σ i := self.2.2.2.2.2.2.2.2.2.2.2.2.2.1
theorem Nd.dp {σ : mSt} {C T i : Nat} (self : Nd σ C T i) : 1 ≤ Dp σ i ∧ Dp σ i ≤ i + 1 := self.2.2.2.2.2.2.2.2.2.2.2.2.2.2.1
theorem Nd.s1 {σ : mSt} {C T i : Nat} (self : Nd σ C T i) : 1 ≤ Sz σ i ∧ Sz σ i ≤ 100000 := self.2.2.2.2.2.2.2.2.2.2.2.2.2.2.2.1
theorem Nd.s2 {σ : mSt} {C T i : Nat} (self : Nd σ C T i) : Sz σ i < 100000 → 1 + sz σ (σ.2.2.1 9 i) + sz σ (σ.2.2.1 10 i) + sz σ (σ.2.2.1 11 i) + csz σ (σ.2.2.1 14 i).toInt.toNat (σ.2.2.1 15 i).toInt.toNat ≤ Sz σ i := self.2.2.2.2.2.2.2.2.2.2.2.2.2.2.2.2
def ClOk (σ : mSt) (N j : Nat) : Prop := (0 ≤ (σ.2.2.1 16 j).toInt ∧ (σ.2.2.1 16 j).toInt < 8) ∧ (0 ≤ (σ.2.2.1 17 j).toInt ∧ (σ.2.2.1 17 j).toInt < 10) ∧ (0 ≤ (σ.2.2.1 18 j).toInt ∧ (σ.2.2.1 18 j).toInt < 10) ∧ (0 ≤ (σ.2.2.1 19 j).toInt ∧ (σ.2.2.1 19 j).toInt < N)
theorem ClOk.e {σ : mSt} {N j : Nat} (self : ClOk σ N j) : 0 ≤ (σ.2.2.1 16 j).toInt ∧ (σ.2.2.1 16 j).toInt < 8 := self.1
theorem ClOk.x {σ : mSt} {N j : Nat} (self : ClOk σ N j) : 0 ≤ (σ.2.2.1 17 j).toInt ∧ (σ.2.2.1 17 j).toInt < 10 := self.2.1
theorem ClOk.k {σ : mSt} {N j : Nat} (self : ClOk σ N j) : 0 ≤ (σ.2.2.1 18 j).toInt ∧ (σ.2.2.1 18 j).toInt < 10 := self.2.2.1
theorem ClOk.b {σ : mSt} {N j : Nat} (self : ClOk σ N j) : 0 ≤ (σ.2.2.1 19 j).toInt ∧ (σ.2.2.1 19 j).toInt < N := self.2.2.2
def NOk (σ : mSt) (N C R T : Nat) : Prop := ((σ.1 0).toInt = N) ∧ (N ≤ 200) ∧ ((σ.1 1).toInt = C) ∧ (C ≤ 40) ∧ ((σ.1 2).toInt = R) ∧ (R ≤ C) ∧ (∀ i, i < N → Nd σ C T i) ∧ (∀ j, j < C → ClOk σ N j)
theorem NOk.n {σ : mSt} {N C R T : Nat} (self : NOk σ N C R T) : (σ.1 0).toInt = N := self.1
theorem NOk.hn {σ : mSt} {N C R T : Nat} (self : NOk σ N C R T) : N ≤ 200 := self.2.1
theorem NOk.c {σ : mSt} {N C R T : Nat} (self : NOk σ N C R T) : (σ.1 1).toInt = C := self.2.2.1
theorem NOk.hc {σ : mSt} {N C R T : Nat} (self : NOk σ N C R T) : C ≤ 40 := self.2.2.2.1
theorem NOk.r {σ : mSt} {N C R T : Nat} (self : NOk σ N C R T) : (σ.1 2).toInt = R := self.2.2.2.2.1
theorem NOk.hr {σ : mSt} {N C R T : Nat} (self : NOk σ N C R T) : R ≤ C := self.2.2.2.2.2.1
theorem NOk.nd {σ : mSt} {N C R T : Nat} (self : NOk σ N C R T) : ∀ i, i < N → Nd σ C T i := self.2.2.2.2.2.2.1
theorem NOk.cl {σ : mSt} {N C R T : Nat} (self : NOk σ N C R T) : ∀ j, j < C → ClOk σ N j := self.2.2.2.2.2.2.2
theorem csz_congr {σ σ' : mSt} {f : Nat} : ∀ {m : Nat}, (∀ j, f ≤ j → j < f + m → σ'.2.2.1 19 j = σ.2.2.1 19 j) → (∀ j, f ≤ j → j < f + m → Sz σ' (σ.2.2.1 19 j).toInt.toNat = Sz σ (σ.2.2.1 19 j).toInt.toNat) → csz σ' f m = csz σ f m := by
  intro m
  induction m with
  | zero => intros; rfl
  | succ m ih =>
    intro h1 h2
    simp only [csz]
    rw [ih (fun j a b => h1 j a (by omega)) (fun j a b => h2 j a (by omega)), h1 (f + m) (by omega) (by omega), h2 (f + m) (by omega) (by omega)]
theorem Nd.congr {σ σ' : mSt} {C T C' T' i : Nat} (h : Nd σ C T i) (hC : C ≤ C') (hT : T ≤ T') (e : ∀ k, 5 ≤ k → k ≤ 15 → ∀ j, j ≤ i → σ'.2.2.1 k j = σ.2.2.1 k j) (e19 : ∀ j, j < C → σ'.2.2.1 19 j = σ.2.2.1 19 j) : Nd σ' C' T' i := by
  have e5 := e 5 (by omega) (by omega) i (Nat.le_refl _)
  have e6 := e 6 (by omega) (by omega) i (Nat.le_refl _)
  have e7 := e 7 (by omega) (by omega) i (Nat.le_refl _)
  have e8 := e 8 (by omega) (by omega) i (Nat.le_refl _)
  have e9 := e 9 (by omega) (by omega) i (Nat.le_refl _)
  have e10 := e 10 (by omega) (by omega) i (Nat.le_refl _)
  have e11 := e 11 (by omega) (by omega) i (Nat.le_refl _)
  have e12 := e 12 (by omega) (by omega)
  have e13 := e 13 (by omega) (by omega)
  have e14 := e 14 (by omega) (by omega) i (Nat.le_refl _)
  have e15 := e 15 (by omega) (by omega) i (Nat.le_refl _)
  have pt : ∀ p, Pt σ i p → Pt σ' i p := by
    intro p hp
    rcases hp with hp | ⟨h1, h2, h3⟩
    · exact Or.inl hp
    · refine Or.inr ⟨h1, h2, ?_⟩
      unfold Dp at *
      rw [e13 _ (by omega), e13 i (Nat.le_refl _)]; exact h3
  have szc : ∀ p, Pt σ i p → sz σ' p = sz σ p := by
    intro p hp
    unfold sz
    split
    · rfl
    · rcases hp with hp | ⟨h1, h2, h3⟩
      · contradiction
      · unfold Sz; rw [e12 _ (by omega)]
  have hK : K σ' i = K σ i := by unfold K; rw [e5]
  refine ⟨?_, ?_, ?_, ?_, ?_, ?_, ?_, ?_, ?_, ?_, ?_, ?_, ?_, ?_, ?_, ?_, ?_⟩ <;> (try rw [hK]) <;> (try rw [e6]) <;> (try rw [e7]) <;> (try rw [e8]) <;> (try rw [e9]) <;> (try rw [e10]) <;> (try rw [e11]) <;> (try rw [e14]) <;> (try rw [e15])
  · exact h.k
  · exact pt _ h.pa
  · exact pt _ h.pb
  · exact pt _ h.pc
  · exact h.ha
  · exact h.hb
  · exact h.hc
  · exact h.nm
  · intro hk; have := h.rc hk; omega
  · intro hk; have := h.fn hk; omega
  · exact h.pf
  · exact h.cm
  · intro hk; have := h.cf hk; omega
  · intro hk j h1 h2
    have hc := h.cf hk
    have := h.ce hk j h1 h2
    rw [e19 j (by omega)]
    unfold Dp at *
    rw [e13 _ (by omega), e13 i (Nat.le_refl _)]; exact this
  · unfold Dp; rw [e13 i (Nat.le_refl _)]; exact h.dp
  · unfold Sz; rw [e12 i (Nat.le_refl _)]; exact h.s1
  · intro hs
    unfold Sz at hs ⊢
    rw [e12 i (Nat.le_refl _)] at hs ⊢
    have := h.s2 hs
    rw [szc _ h.pa, szc _ h.pb, szc _ h.pc]
    by_cases hk : K σ i = 8
    · have hc := h.cf hk
      have hm := h.cm
      rw [csz_congr (σ := σ) (fun j a b => e19 j (by omega)) (fun j a b => by unfold Sz; rw [e12 _ (by have := h.ce hk j (by omega) (by omega); omega)])]
      exact this
    · have hm := h.cm.2 hk
      rw [hm] at this ⊢
      exact this
end
section
def dpp (σ : mSt) (p : Int32) : Int := if p = -1 then 0 else Dp σ p.toInt.toNat
/-- a part of a new node -/
def Pn (N : Nat) (p : Int32) : Prop := p = -1 ∨ (0 ≤ p.toInt ∧ p.toInt < N)
theorem counts_any {σ : mSt} {x y : Int32} {n : Nat} (hx : x.toInt = n) (hn : n < 200) (hp : Pn n y) (hs : ∀ p, p < n → 1 ≤ Sz σ p ∧ Sz σ p ≤ 100000) (hd : ∀ p, p < n → 1 ≤ Dp σ p ∧ Dp σ p ≤ p + 1) (s1 : 1 ≤ Sz σ n ∧ Sz σ n ≤ 100000) (d1 : 1 ≤ Dp σ n ∧ Dp σ n ≤ n + 1) :
    S_Mo_counts σ x y ∧ CFr n σ (F_Mo_counts σ x y) ∧ Sz (F_Mo_counts σ x y) n = min 100000 (Sz σ n + sz σ y) ∧ Dp (F_Mo_counts σ x y) n = max (Dp σ n) (dpp σ y + 1) := by
  by_cases h : y = -1
  · subst h
    obtain ⟨a, b⟩ := counts_none (σ := σ) (x := x)
    rw [b]
    simp only [sz, dpp, if_true]
    exact ⟨a, CFr.rfl', by omega, by omega⟩
  · rcases hp with hp | ⟨h1, h2⟩
    · exact absurd hp h
    · have := hs y.toInt.toNat (by omega)
      have := hd y.toInt.toNat (by omega)
      simp only [sz, dpp, if_neg h]
      exact counts_ok hx (by omega) hn (by omega) s1 (by assumption) (by omega) (by omega)
def AddP (σ σ' : mSt) (N : Nat) (x1 x3 x4 x5 : Int32) : Prop := (∀ k, k ≠ 0 → k ≠ 4 → σ'.1 k = σ.1 k) ∧ ((σ'.1 0).toInt = N + 1) ∧ (σ'.1 4 = 0) ∧ (σ'.2.1 = σ.2.1) ∧ (σ'.2.2.2 = σ.2.2.2) ∧ (∀ k i, ¬ (i = N ∧ ((5 ≤ k ∧ k ≤ 13) ∨ k = 15)) → σ'.2.2.1 k i = σ.2.2.1 k i) ∧ (σ'.2.2.1 5 N = x1) ∧ (σ'.2.2.1 6 N = 0) ∧ (σ'.2.2.1 7 N = 0) ∧ (σ'.2.2.1 8 N = 0) ∧ (σ'.2.2.1 9 N = x3) ∧ (σ'.2.2.1 10 N = x4) ∧ (σ'.2.2.1 11 N = x5) ∧ (σ'.2.2.1 15 N = 0) ∧ (1 ≤ Dp σ' N ∧ Dp σ' N ≤ N + 1 ∧ dpp σ x3 < Dp σ' N ∧ dpp σ x4 < Dp σ' N ∧ dpp σ x5 < Dp σ' N) ∧ (1 ≤ Sz σ' N ∧ Sz σ' N ≤ 100000) ∧ (Sz σ' N < 100000 → 1 + sz σ x3 + sz σ x4 + sz σ x5 ≤ Sz σ' N) ∧ (Sz σ' N = min 100000 (min 100000 (min 100000 (1 + sz σ x3) + sz σ x4) + sz σ x5)) ∧ (Dp σ' N = max (max (max 1 (dpp σ x3 + 1)) (dpp σ x4 + 1)) (dpp σ x5 + 1))
theorem AddP.f {σ σ' : mSt} {N : Nat} {x1 x3 x4 x5 : Int32} (self : AddP σ σ' N x1 x3 x4 x5) : ∀ k, k ≠ 0 → k ≠ 4 → σ'.1 k = σ.1 k := self.1
theorem AddP.f0 {σ σ' : mSt} {N : Nat} {x1 x3 x4 x5 : Int32} (self : AddP σ σ' N x1 x3 x4 x5) : (σ'.1 0).toInt = N + 1 := self.2.1
theorem AddP.f4 {σ σ' : mSt} {N : Nat} {x1 x3 x4 x5 : Int32} (self : AddP σ σ' N x1 x3 x4 x5) : σ'.1 4 = 0 := self.2.2.1
theorem AddP.l {σ σ' : mSt} {N : Nat} {x1 x3 x4 x5 : Int32} (self : AddP σ σ' N x1 x3 x4 x5) : σ'.2.1 = σ.2.1 := self.2.2.2.1
theorem AddP.ll {σ σ' : mSt} {N : Nat} {x1 x3 x4 x5 : Int32} (self : AddP σ σ' N x1 x3 x4 x5) : σ'.2.2.2 = σ.2.2.2 := self.2.2.2.2.1
theorem AddP.a {σ σ' : mSt} {N : Nat} {x1 x3 x4 x5 : Int32} (self : AddP σ σ' N x1 x3 x4 x5) : ∀ k i, ¬ (i = N ∧ ((5 ≤ k ∧ k ≤ 13) ∨ k = 15)) → σ'.2.2.1 k i = σ.2.2.1 k i := self.2.2.2.2.2.1
theorem AddP.k5 {σ σ' : mSt} {N : Nat} {x1 x3 x4 x5 : Int32} (self : AddP σ σ' N x1 x3 x4 x5) : σ'.2.2.1 5 N = x1 := self.2.2.2.2.2.2.1
theorem AddP.k6 {σ σ' : mSt} {N : Nat} {x1 x3 x4 x5 : Int32} (self : AddP σ σ' N x1 x3 x4 x5) : σ'.2.2.1 6 N = 0 := self.2.2.2.2.2.2.2.1
theorem AddP.k7 {σ σ' : mSt} {N : Nat} {x1 x3 x4 x5 : Int32} (self : AddP σ σ' N x1 x3 x4 x5) : σ'.2.2.1 7 N = 0 := self.2.2.2.2.2.2.2.2.1
theorem AddP.k8 {σ σ' : mSt} {N : Nat} {x1 x3 x4 x5 : Int32} (self : AddP σ σ' N x1 x3 x4 x5) : σ'.2.2.1 8 N = 0 := self.2.2.2.2.2.2.2.2.2.1
theorem AddP.k9 {σ σ' : mSt} {N : Nat} {x1 x3 x4 x5 : Int32} (self : AddP σ σ' N x1 x3 x4 x5) : σ'.2.2.1 9 N = x3 := self.2.2.2.2.2.2.2.2.2.2.1
theorem AddP.k10 {σ σ' : mSt} {N : Nat} {x1 x3 x4 x5 : Int32} (self : AddP σ σ' N x1 x3 x4 x5) : σ'.2.2.1 10 N = x4 := self.2.2.2.2.2.2.2.2.2.2.2.1
theorem AddP.k11 {σ σ' : mSt} {N : Nat} {x1 x3 x4 x5 : Int32} (self : AddP σ σ' N x1 x3 x4 x5) : σ'.2.2.1 11 N = x5 := self.2.2.2.2.2.2.2.2.2.2.2.2.1
theorem AddP.k15 {σ σ' : mSt} {N : Nat} {x1 x3 x4 x5 : Int32} (self : AddP σ σ' N x1 x3 x4 x5) : σ'.2.2.1 15 N = 0 := self.2.2.2.2.2.2.2.2.2.2.2.2.2.1
theorem AddP.dp {σ σ' : mSt} {N : Nat} {x1 x3 x4 x5 : Int32} (self : AddP σ σ' N x1 x3 x4 x5) : 1 ≤ Dp σ' N ∧ Dp σ' N ≤ N + 1 ∧ dpp σ x3 < Dp σ' N ∧ dpp σ x4 < Dp σ' N ∧ dpp σ x5 < Dp σ' N := self.2.2.2.2.2.2.2.2.2.2.2.2.2.2.1
theorem AddP.s1 {σ σ' : mSt} {N : Nat} {x1 x3 x4 x5 : Int32} (self : AddP σ σ' N x1 x3 x4 x5) : 1 ≤ Sz σ' N ∧ Sz σ' N ≤ 100000 := self.2.2.2.2.2.2.2.2.2.2.2.2.2.2.2.1
theorem AddP.s2 {σ σ' : mSt} {N : Nat} {x1 x3 x4 x5 : Int32} (self : AddP σ σ' N x1 x3 x4 x5) : Sz σ' N < 100000 → 1 + sz σ x3 + sz σ x4 + sz σ x5 ≤ Sz σ' N := self.2.2.2.2.2.2.2.2.2.2.2.2.2.2.2.2.1
theorem AddP.sx {σ σ' : mSt} {N : Nat} {x1 x3 x4 x5 : Int32} (self : AddP σ σ' N x1 x3 x4 x5) : Sz σ' N = min 100000 (min 100000 (min 100000 (1 + sz σ x3) + sz σ x4) + sz σ x5) := self.2.2.2.2.2.2.2.2.2.2.2.2.2.2.2.2.2.1
theorem AddP.dx {σ σ' : mSt} {N : Nat} {x1 x3 x4 x5 : Int32} (self : AddP σ σ' N x1 x3 x4 x5) : Dp σ' N = max (max (max 1 (dpp σ x3 + 1)) (dpp σ x4 + 1)) (dpp σ x5 + 1) := self.2.2.2.2.2.2.2.2.2.2.2.2.2.2.2.2.2.2
theorem add_new {σ : mSt} {N C R T : Nat} (h : NOk σ N C R T) (hN : N < 200) {x1 x3 x4 x5 : Int32} (h3 : Pn N x3) (h4 : Pn N x4) (h5 : Pn N x5) :
    S_Mo_add_j24 σ x1 x3 x4 x5 0 ∧ (F_Mo_add_j24 σ x1 x3 x4 x5 0).1.toInt = N ∧ AddP σ (F_Mo_add_j24 σ x1 x3 x4 x5 0).2 N x1 x3 x4 x5 := by
  have hn := h.n
  have hv : vp_in (σ.1 0) 200 := by ((try (simp only [vp_in, Int32.toNatClampNeg, Int32.lt_iff_toInt_lt, Int32.le_iff_toInt_le, ← Int32.toInt_inj, Int32.toInt_add, Int32.toInt_sub, Int32.toInt_mul, Int32.reduceToInt, i32_neg1, Nat.reducePow, Int.reducePow, ne_eq, ge_iff_le, gt_iff_lt] at *)) <;> (first | omega | ((simp (disch := omega) only [bm32] at *) <;> omega)))
  have hnn : (σ.1 0).toNatClampNeg = N := by ((try (simp only [vp_in, Int32.toNatClampNeg, Int32.lt_iff_toInt_lt, Int32.le_iff_toInt_le, ← Int32.toInt_inj, Int32.toInt_add, Int32.toInt_sub, Int32.toInt_mul, Int32.reduceToInt, i32_neg1, Nat.reducePow, Int.reducePow, ne_eq, ge_iff_le, gt_iff_lt] at *)) <;> (first | omega | ((simp (disch := omega) only [bm32] at *) <;> omega)))
  have hn1 : (σ.1 0 + 1).toInt = N + 1 := by ((try (simp only [vp_in, Int32.toNatClampNeg, Int32.lt_iff_toInt_lt, Int32.le_iff_toInt_le, ← Int32.toInt_inj, Int32.toInt_add, Int32.toInt_sub, Int32.toInt_mul, Int32.reduceToInt, i32_neg1, Nat.reducePow, Int.reducePow, ne_eq, ge_iff_le, gt_iff_lt] at *)) <;> (first | omega | ((simp (disch := omega) only [bm32] at *) <;> omega)))
  have e1 : (1 : Int32).toInt = 1 := rfl
  have g0 : ∀ σ : mSt, (mo_si σ 4 0).1 0 = σ.1 0 := fun _ => rfl
  have g4 : ∀ σ : mSt, (mo_si σ 4 0).1 4 = 0 := fun _ => rfl
  simp only [S_Mo_add_j24, F_Mo_add_j24, mbind_eq, g0, g4, if_true, hnn]
  generalize hσ1 : mo_ai (mo_ai (mo_ai (mo_ai (mo_ai (mo_ai (mo_ai (mo_ai (mo_ai (mo_si (mo_si σ 4 0) 0 (σ.1 0 + 1)) 5 N x1) 9 N x3) 10 N x4) 11 N x5) 6 N 0) 7 N 0) 8 N 0) 12 N 1) 13 N 1 = σ1
  have fr1 : ∀ k i, ¬ (i = N ∧ (5 ≤ k ∧ k ≤ 13)) → σ1.2.2.1 k i = σ.2.2.1 k i := by
    intro k i hk
    subst hσ1
    simp only [ai_3, si_2]
    repeat (rw [if_neg (by omega)])
  have s12 : Sz σ1 N = 1 := by subst hσ1; unfold Sz; simp [si_1, si_2, sl_1, sl_2, sl_3, ai_1, ai_2, ai_3, ai_4, al_1, al_2, al_3, al_4]
  have d13 : Dp σ1 N = 1 := by subst hσ1; unfold Dp; simp [si_1, si_2, sl_1, sl_2, sl_3, ai_1, ai_2, ai_3, ai_4, al_1, al_2, al_3, al_4]
  have szl : ∀ p, p < N → Sz σ1 p = Sz σ p := fun p hp => by unfold Sz; rw [fr1 12 p (by omega)]
  have dpl : ∀ p, p < N → Dp σ1 p = Dp σ p := fun p hp => by unfold Dp; rw [fr1 13 p (by omega)]
  have bs : ∀ p, p < N → 1 ≤ Sz σ p ∧ Sz σ p ≤ 100000 := fun p hp => (h.nd p hp).s1
  have bd : ∀ p, p < N → 1 ≤ Dp σ p ∧ Dp σ p ≤ p + 1 := fun p hp => (h.nd p hp).dp
  have low : ∀ {τ : mSt}, CFr N σ1 τ → (∀ p, p < N → Sz τ p = Sz σ p) ∧ (∀ p, p < N → Dp τ p = Dp σ p) := fun {τ} hf => ⟨fun p hp => by unfold Sz; rw [hf.a 12 p (by omega)]; exact szl p hp, fun p hp => by unfold Dp; rw [hf.a 13 p (by omega)]; exact dpl p hp⟩
  have szq : ∀ {τ : mSt} {p : Int32}, CFr N σ1 τ → Pn N p → sz τ p = sz σ p ∧ dpp τ p = dpp σ p ∧ 0 ≤ sz σ p ∧ 0 ≤ dpp σ p ∧ dpp σ p ≤ N := by
    intro τ p hf hp
    unfold sz dpp
    split
    · omega
    · rcases hp with hp | ⟨h1, h2⟩
      · contradiction
      · have a := (low hf).1 p.toInt.toNat (by omega)
        have b := (low hf).2 p.toInt.toNat (by omega)
        have := bs p.toInt.toNat (by omega)
        have := bd p.toInt.toNat (by omega)
        omega
  have q1 := szq CFr.rfl' h3
  have c1 := counts_any (σ := σ1) hn hN h3 (fun p hp => by rw [szl p hp]; exact bs p hp) (fun p hp => by rw [dpl p hp]; exact bd p hp) (by omega) (by omega)
  rw [q1.1, q1.2.1] at c1
  generalize F_Mo_counts σ1 (σ.1 0) x3 = σ2 at c1 ⊢
  obtain ⟨a1, f1, b1, b2⟩ := c1
  have q2 := szq f1 h4
  have c2 := counts_any (σ := σ2) hn hN h4 (fun p hp => by rw [(low f1).1 p hp]; exact bs p hp) (fun p hp => by rw [(low f1).2 p hp]; exact bd p hp) (by omega) (by omega)
  rw [q2.1, q2.2.1] at c2
  generalize F_Mo_counts σ2 (σ.1 0) x4 = σ3 at c2 ⊢
  obtain ⟨a2, f2, b3, b4⟩ := c2
  have f12 := f1.trans f2
  have q3 := szq f12 h5
  have c3 := counts_any (σ := σ3) hn hN h5 (fun p hp => by rw [(low f12).1 p hp]; exact bs p hp) (fun p hp => by rw [(low f12).2 p hp]; exact bd p hp) (by omega) (by omega)
  rw [q3.1, q3.2.1] at c3
  generalize F_Mo_counts σ3 (σ.1 0) x5 = σ4 at c3 ⊢
  obtain ⟨a3, f3, b5, b6⟩ := c3
  have f13 := f12.trans f3
  refine ⟨⟨hv, hv, hv, hv, hv, hv, hv, hv, hv, a1, a2, a3, hv, trivial⟩, hn, ?_⟩
  have key : ∀ k, k ≠ 12 → k ≠ 13 → k ≠ 15 → ∀ i, (mo_ai σ4 15 N 0).2.2.1 k i = σ1.2.2.1 k i := by
    intro k k1 k2 k3 i
    rw [ai_3, if_neg (by omega), f13.a k i (by omega)]
  have k12 : Sz (mo_ai σ4 15 N 0) N = Sz σ4 N := by unfold Sz; rw [ai_3, if_neg (by omega)]
  have k13 : Dp (mo_ai σ4 15 N 0) N = Dp σ4 N := by unfold Dp; rw [ai_3, if_neg (by omega)]
  refine ⟨?_, ?_, ?_, ?_, ?_, ?_, ?_, ?_, ?_, ?_, ?_, ?_, ?_, ?_, ?_, ?_, ?_, ?_, ?_⟩
  · intro k k0 k4
    show σ4.1 k = σ.1 k
    rw [f13.f]; subst hσ1; simp [si_1, si_2, sl_1, sl_2, sl_3, ai_1, ai_2, ai_3, ai_4, al_1, al_2, al_3, al_4, k0, k4]
  · show (σ4.1 0).toInt = N + 1
    rw [f13.f]; subst hσ1; simpa [si_1, si_2, sl_1, sl_2, sl_3, ai_1, ai_2, ai_3, ai_4, al_1, al_2, al_3, al_4] using hn1
  · show σ4.1 4 = 0
    rw [f13.f]; subst hσ1; simp [si_1, si_2, sl_1, sl_2, sl_3, ai_1, ai_2, ai_3, ai_4, al_1, al_2, al_3, al_4]
  · show σ4.2.1 = σ.2.1
    rw [f13.l]; subst hσ1; rfl
  · show σ4.2.2.2 = σ.2.2.2
    rw [f13.ll]; subst hσ1; rfl
  · intro k i hk
    rw [ai_3, if_neg (by omega), f13.a k i (by omega), fr1 k i (by omega)]
  · rw [key 5 (by decide) (by decide) (by decide)]; subst hσ1; simp [si_1, si_2, sl_1, sl_2, sl_3, ai_1, ai_2, ai_3, ai_4, al_1, al_2, al_3, al_4]
  · rw [key 6 (by decide) (by decide) (by decide)]; subst hσ1; simp [si_1, si_2, sl_1, sl_2, sl_3, ai_1, ai_2, ai_3, ai_4, al_1, al_2, al_3, al_4]
  · rw [key 7 (by decide) (by decide) (by decide)]; subst hσ1; simp [si_1, si_2, sl_1, sl_2, sl_3, ai_1, ai_2, ai_3, ai_4, al_1, al_2, al_3, al_4]
  · rw [key 8 (by decide) (by decide) (by decide)]; subst hσ1; simp [si_1, si_2, sl_1, sl_2, sl_3, ai_1, ai_2, ai_3, ai_4, al_1, al_2, al_3, al_4]
  · rw [key 9 (by decide) (by decide) (by decide)]; subst hσ1; simp [si_1, si_2, sl_1, sl_2, sl_3, ai_1, ai_2, ai_3, ai_4, al_1, al_2, al_3, al_4]
  · rw [key 10 (by decide) (by decide) (by decide)]; subst hσ1; simp [si_1, si_2, sl_1, sl_2, sl_3, ai_1, ai_2, ai_3, ai_4, al_1, al_2, al_3, al_4]
  · rw [key 11 (by decide) (by decide) (by decide)]; subst hσ1; simp [si_1, si_2, sl_1, sl_2, sl_3, ai_1, ai_2, ai_3, ai_4, al_1, al_2, al_3, al_4]
  · rw [ai_3, if_pos ⟨rfl, rfl⟩]
  · rw [k13]; omega
  · rw [k12]; omega
  · rw [k12]; omega
  · rw [k12]; omega
  · rw [k13]; omega
end
