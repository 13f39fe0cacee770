-- pure rows: Q R S
section
/-! pure rows: the checking's stack -/
def RowFr (c : Nat) (σ σ' : mSt) : Prop := (σ'.1 = σ.1) ∧ (σ'.2.1 = σ.2.1) ∧ (σ'.2.2.2 = σ.2.2.2) ∧ (∀ k i, ¬ (k = 30 ∧ 10 * c ≤ i ∧ i < 10 * c + 10) → σ'.2.2.1 k i = σ.2.2.1 k i)
theorem RowFr.f {c : Nat} {σ σ' : mSt} (self : RowFr c σ σ') : σ'.1 = σ.1 := self.1
theorem RowFr.l {c : Nat} {σ σ' : mSt} (self : RowFr c σ σ') : σ'.2.1 = σ.2.1 := self.2.1
theorem RowFr.ll {c : Nat} {σ σ' : mSt} (self : RowFr c σ σ') : σ'.2.2.2 = σ.2.2.2 := self.2.2.1
theorem RowFr.a {c : Nat} {σ σ' : mSt} (self : RowFr c σ σ') : ∀ k i, ¬ (k = 30 ∧ 10 * c ≤ i ∧ i < 10 * c + 10) → σ'.2.2.1 k i = σ.2.2.1 k i := self.2.2.2
theorem RowFr.trans {n : Nat} {a b c : mSt} (h : RowFr n a b) (g : RowFr n b c) : RowFr n a c :=
  ⟨g.f.trans h.f, g.l.trans h.l, g.ll.trans h.ll, fun k i hk => (g.a k i hk).trans (h.a k i hk)⟩
theorem into_35_ok {c : Nat} (hc : c < 45) (σ0 : mSt) :
    ∀ (m n : Nat) (σ : mSt) (x y : Int32) (j : Nat), x.toInt = c → y.toInt = j → j ≤ 10 → 10 - j ≤ m → m < n → RowFr c σ0 σ → (∀ k, k < j → σ.2.2.1 30 (10 * c + k) = if c = 0 then -1 else σ0.2.2.1 30 (10 * (c - 1) + k)) →
    S_Mo_into_35 n σ x y ∧ RowFr c σ0 (F_Mo_into_35 n σ x y) ∧ (∀ k, k < 10 → (F_Mo_into_35 n σ x y).2.2.1 30 (10 * c + k) = if c = 0 then -1 else σ0.2.2.1 30 (10 * (c - 1) + k)) := by
  intro m
  induction m with
  | zero =>
    intro n σ x y j hx hy hj hm hn fr hk
    obtain ⟨n, rfl⟩ : ∃ k, n = k + 1 := ⟨n - 1, by omega⟩
    have hcc : 10 ≤ y := by ((try (simp only [vp_in, Int32.toNatClampNeg, Int32.lt_iff_toInt_lt, Int32.le_iff_toInt_le, ← Int32.toInt_inj, Int32.toInt_add, Int32.toInt_sub, Int32.toInt_mul, Int32.reduceToInt, i32_neg1, Nat.reducePow, Int.reducePow, ne_eq, ge_iff_le, gt_iff_lt] at *)) <;> (first | omega | ((simp (disch := omega) only [bm32] at *) <;> omega)))
    simp only [S_Mo_into_35, F_Mo_into_35, if_pos hcc]
    exact ⟨trivial, fr, fun k h => hk k (by omega)⟩
  | succ m ih =>
    intro n σ x y j hx hy hj hm hn fr hk
    obtain ⟨n, rfl⟩ : ∃ k, n = k + 1 := ⟨n - 1, by omega⟩
    by_cases hj10 : j = 10
    · have hcc : 10 ≤ y := by ((try (simp only [vp_in, Int32.toNatClampNeg, Int32.lt_iff_toInt_lt, Int32.le_iff_toInt_le, ← Int32.toInt_inj, Int32.toInt_add, Int32.toInt_sub, Int32.toInt_mul, Int32.reduceToInt, i32_neg1, Nat.reducePow, Int.reducePow, ne_eq, ge_iff_le, gt_iff_lt] at *)) <;> (first | omega | ((simp (disch := omega) only [bm32] at *) <;> omega)))
      simp only [S_Mo_into_35, F_Mo_into_35, if_pos hcc]
      exact ⟨trivial, fr, fun k h => hk k (by omega)⟩
    have hcc : ¬ 10 ≤ y := by ((try (simp only [vp_in, Int32.toNatClampNeg, Int32.lt_iff_toInt_lt, Int32.le_iff_toInt_le, ← Int32.toInt_inj, Int32.toInt_add, Int32.toInt_sub, Int32.toInt_mul, Int32.reduceToInt, i32_neg1, Nat.reducePow, Int.reducePow, ne_eq, ge_iff_le, gt_iff_lt] at *)) <;> (first | omega | ((simp (disch := omega) only [bm32] at *) <;> omega)))
    have hi : (10 * x + y).toNatClampNeg = 10 * c + j := by ((try (simp only [vp_in, Int32.toNatClampNeg, Int32.lt_iff_toInt_lt, Int32.le_iff_toInt_le, ← Int32.toInt_inj, Int32.toInt_add, Int32.toInt_sub, Int32.toInt_mul, Int32.reduceToInt, i32_neg1, Nat.reducePow, Int.reducePow, ne_eq, ge_iff_le, gt_iff_lt] at *)) <;> (first | omega | ((simp (disch := omega) only [bm32] at *) <;> omega)))
    have hv : vp_in (10 * x + y) 450 := by ((try (simp only [vp_in, Int32.toNatClampNeg, Int32.lt_iff_toInt_lt, Int32.le_iff_toInt_le, ← Int32.toInt_inj, Int32.toInt_add, Int32.toInt_sub, Int32.toInt_mul, Int32.reduceToInt, i32_neg1, Nat.reducePow, Int.reducePow, ne_eq, ge_iff_le, gt_iff_lt] at *)) <;> (first | omega | ((simp (disch := omega) only [bm32] at *) <;> omega)))
    simp only [S_Mo_into_35, F_Mo_into_35, if_neg hcc, hi]
    have step : ∀ v : Int32, v = (if c = 0 then -1 else σ0.2.2.1 30 (10 * (c - 1) + j)) → S_Mo_into_35 n (mo_ai σ 30 (10 * c + j) v) x (y + 1) ∧ RowFr c σ0 (F_Mo_into_35 n (mo_ai σ 30 (10 * c + j) v) x (y + 1)) ∧ (∀ k, k < 10 → (F_Mo_into_35 n (mo_ai σ 30 (10 * c + j) v) x (y + 1)).2.2.1 30 (10 * c + k) = if c = 0 then -1 else σ0.2.2.1 30 (10 * (c - 1) + k)) := by
      intro v hv
      refine ih n _ x (y + 1) (j + 1) hx (by ((try (simp only [vp_in, Int32.toNatClampNeg, Int32.lt_iff_toInt_lt, Int32.le_iff_toInt_le, ← Int32.toInt_inj, Int32.toInt_add, Int32.toInt_sub, Int32.toInt_mul, Int32.reduceToInt, i32_neg1, Nat.reducePow, Int.reducePow, ne_eq, ge_iff_le, gt_iff_lt] at *)) <;> (first | omega | ((simp (disch := omega) only [bm32] at *) <;> omega)))) (by omega) (by omega) (by omega) (fr.trans ⟨rfl, rfl, rfl, fun k i hk => by rw [ai_3, if_neg (by omega)]⟩) ?_
      intro k hk2
      rw [ai_3]
      by_cases hkj : k = j
      · subst hkj; rw [if_pos ⟨rfl, rfl⟩]; exact hv
      · rw [if_neg (by omega)]; exact hk k (by omega)
    by_cases h0 : x = 0
    · have hc0 : c = 0 := by ((try (simp only [vp_in, Int32.toNatClampNeg, Int32.lt_iff_toInt_lt, Int32.le_iff_toInt_le, ← Int32.toInt_inj, Int32.toInt_add, Int32.toInt_sub, Int32.toInt_mul, Int32.reduceToInt, i32_neg1, Nat.reducePow, Int.reducePow, ne_eq, ge_iff_le, gt_iff_lt] at *)) <;> (first | omega | ((simp (disch := omega) only [bm32] at *) <;> omega)))
      simp only [if_pos h0]
      have r := step (-1) (by rw [if_pos hc0])
      exact ⟨⟨hv, r.1⟩, r.2⟩
    · have hc0 : ¬ c = 0 := by ((try (simp only [vp_in, Int32.toNatClampNeg, Int32.lt_iff_toInt_lt, Int32.le_iff_toInt_le, ← Int32.toInt_inj, Int32.toInt_add, Int32.toInt_sub, Int32.toInt_mul, Int32.reduceToInt, i32_neg1, Nat.reducePow, Int.reducePow, ne_eq, ge_iff_le, gt_iff_lt] at *)) <;> (first | omega | ((simp (disch := omega) only [bm32] at *) <;> omega)))
      have hi2 : (10 * (x - 1) + y).toNatClampNeg = 10 * (c - 1) + j := by ((try (simp only [vp_in, Int32.toNatClampNeg, Int32.lt_iff_toInt_lt, Int32.le_iff_toInt_le, ← Int32.toInt_inj, Int32.toInt_add, Int32.toInt_sub, Int32.toInt_mul, Int32.reduceToInt, i32_neg1, Nat.reducePow, Int.reducePow, ne_eq, ge_iff_le, gt_iff_lt] at *)) <;> (first | omega | ((simp (disch := omega) only [bm32] at *) <;> omega)))
      have hv2 : vp_in (10 * (x - 1) + y) 450 := by ((try (simp only [vp_in, Int32.toNatClampNeg, Int32.lt_iff_toInt_lt, Int32.le_iff_toInt_le, ← Int32.toInt_inj, Int32.toInt_add, Int32.toInt_sub, Int32.toInt_mul, Int32.reduceToInt, i32_neg1, Nat.reducePow, Int.reducePow, ne_eq, ge_iff_le, gt_iff_lt] at *)) <;> (first | omega | ((simp (disch := omega) only [bm32] at *) <;> omega)))
      simp only [if_neg h0, hi2]
      have r := step (σ.2.2.1 30 (10 * (c - 1) + j)) (by rw [if_neg hc0, fr.a 30 _ (by omega)])
      exact ⟨⟨hv2, hv, r.1⟩, r.2⟩
/-- a part is gone into -/
def IntoP (c : Nat) (x : Int32) (σ σ' : mSt) : Prop := (∀ k, k ≠ 31 → σ'.1 k = σ.1 k) ∧ ((σ'.1 31).toInt = c + 1) ∧ (σ'.2.1 = σ.2.1) ∧ (σ'.2.2.2 = σ.2.2.2) ∧ (∀ k, k < 26 ∨ 30 < k → σ'.2.2.1 k = σ.2.2.1 k) ∧ (∀ k i, 26 ≤ k → k ≤ 29 → i ≠ c → σ'.2.2.1 k i = σ.2.2.1 k i) ∧ (σ'.2.2.1 26 c = x) ∧ (σ'.2.2.1 27 c = 0) ∧ (σ'.2.2.1 28 c = 0) ∧ (∀ i, i < 10 * c → σ'.2.2.1 30 i = σ.2.2.1 30 i) ∧ (∀ k, k < 10 → σ'.2.2.1 30 (10 * c + k) = if c = 0 then -1 else σ.2.2.1 30 (10 * (c - 1) + k))
theorem IntoP.f {c : Nat} {x : Int32} {σ σ' : mSt} (self : IntoP c x σ σ') : ∀ k, k ≠ 31 → σ'.1 k = σ.1 k := self.1
theorem IntoP.f31 {c : Nat} {x : Int32} {σ σ' : mSt} (self : IntoP c x σ σ') : (σ'.1 31).toInt = c + 1 := self.2.1
theorem IntoP.l {c : Nat} {x : Int32} {σ σ' : mSt} (self : IntoP c x σ σ') : σ'.2.1 = σ.2.1 := self.2.2.1
theorem IntoP.ll {c : Nat} {x : Int32} {σ σ' : mSt} (self : IntoP c x σ σ') : σ'.2.2.2 = σ.2.2.2 := self.2.2.2.1
theorem IntoP.a {c : Nat} {x : Int32} {σ σ' : mSt} (self : IntoP c x σ σ') : ∀ k, k < 26 ∨ 30 < k → σ'.2.2.1 k = σ.2.2.1 k := self.2.2.2.2.1
theorem IntoP.lo {c : Nat} {x : Int32} {σ σ' : mSt} (self : IntoP c x σ σ') : ∀ k i, 26 ≤ k → k ≤ 29 → i ≠ c → σ'.2.2.1 k i = σ.2.2.1 k i := self.2.2.2.2.2.1
theorem IntoP.nd {c : Nat} {x : Int32} {σ σ' : mSt} (self : IntoP c x σ σ') : σ'.2.2.1 26 c = x := self.2.2.2.2.2.2.1
theorem IntoP.st {c : Nat} {x : Int32} {σ σ' : mSt} (self : IntoP c x σ σ') : σ'.2.2.1 27 c = 0 := self.2.2.2.2.2.2.2.1
theorem IntoP.ty {c : Nat} {x : Int32} {σ σ' : mSt} (self : IntoP c x σ σ') : σ'.2.2.1 28 c = 0 := self.2.2.2.2.2.2.2.2.1
theorem IntoP.row {c : Nat} {x : Int32} {σ σ' : mSt} (self : IntoP c x σ σ') : ∀ i, i < 10 * c → σ'.2.2.1 30 i = σ.2.2.1 30 i := self.2.2.2.2.2.2.2.2.2.1
theorem IntoP.new {c : Nat} {x : Int32} {σ σ' : mSt} (self : IntoP c x σ σ') : ∀ k, k < 10 → σ'.2.2.1 30 (10 * c + k) = if c = 0 then -1 else σ.2.2.1 30 (10 * (c - 1) + k) := self.2.2.2.2.2.2.2.2.2.2
theorem into_ok {c : Nat} {σ : mSt} (hc : c < 45) (h31 : (σ.1 31).toInt = c) {n : Nat} (hn : 12 ≤ n) {x : Int32} : S_Mo_into n σ x ∧ IntoP c x σ (F_Mo_into n σ x) := by
  have hcn : (σ.1 31).toNatClampNeg = c := by ((try (simp only [vp_in, Int32.toNatClampNeg, Int32.lt_iff_toInt_lt, Int32.le_iff_toInt_le, ← Int32.toInt_inj, Int32.toInt_add, Int32.toInt_sub, Int32.toInt_mul, Int32.reduceToInt, i32_neg1, Nat.reducePow, Int.reducePow, ne_eq, ge_iff_le, gt_iff_lt] at *)) <;> (first | omega | ((simp (disch := omega) only [bm32] at *) <;> omega)))
  have hv : vp_in (σ.1 31) 45 := by ((try (simp only [vp_in, Int32.toNatClampNeg, Int32.lt_iff_toInt_lt, Int32.le_iff_toInt_le, ← Int32.toInt_inj, Int32.toInt_add, Int32.toInt_sub, Int32.toInt_mul, Int32.reduceToInt, i32_neg1, Nat.reducePow, Int.reducePow, ne_eq, ge_iff_le, gt_iff_lt] at *)) <;> (first | omega | ((simp (disch := omega) only [bm32] at *) <;> omega)))
  simp only [S_Mo_into, F_Mo_into, mbind_eq, hcn]
  generalize hσ1 : mo_ai (mo_ai (mo_ai (mo_ai σ 26 c x) 27 c 0) 29 c 0) 28 c 0 = σ1
  have r := into_35_ok hc σ1 10 n σ1 (σ.1 31) 0 0 h31 rfl (by omega) (by omega) (by omega) ⟨rfl, rfl, rfl, fun _ _ _ => rfl⟩ (fun k h => absurd h (by omega))
  generalize F_Mo_into_35 n σ1 (σ.1 31) 0 = σ2 at r ⊢
  obtain ⟨r1, fr, r3⟩ := r
  have f1 : σ1.1 = σ.1 := by subst hσ1; simp only [ai_1]
  refine ⟨⟨hv, hv, hv, hv, r1, trivial⟩, ?_, ?_, ?_, ?_, ?_, ?_, ?_, ?_, ?_, ?_, ?_⟩
  · intro k hk; rw [si_1, if_neg hk, fr.f, f1]
  · rw [si_1, if_pos rfl, fr.f, f1]; ((try (simp only [vp_in, Int32.toNatClampNeg, Int32.lt_iff_toInt_lt, Int32.le_iff_toInt_le, ← Int32.toInt_inj, Int32.toInt_add, Int32.toInt_sub, Int32.toInt_mul, Int32.reduceToInt, i32_neg1, Nat.reducePow, Int.reducePow, ne_eq, ge_iff_le, gt_iff_lt] at *)) <;> (first | omega | ((simp (disch := omega) only [bm32] at *) <;> omega)))
  · rw [si_2, fr.l]; subst hσ1; rfl
  · rw [si_2, fr.ll]; subst hσ1; rfl
  · intro k hk; rw [si_2]; funext i; rw [fr.a k i (by omega)]; subst hσ1; simp only [ai_3]; repeat (rw [if_neg (by omega)])
  · intro k i h1 h2 h3; rw [si_2, fr.a k i (by omega)]; subst hσ1; simp only [ai_3]; repeat (rw [if_neg (by omega)])
  · rw [si_2, fr.a 26 c (by omega)]; subst hσ1; simp [si_1, si_2, sl_1, sl_2, sl_3, ai_1, ai_2, ai_3, ai_4, al_1, al_2, al_3, al_4]
  · rw [si_2, fr.a 27 c (by omega)]; subst hσ1; simp [si_1, si_2, sl_1, sl_2, sl_3, ai_1, ai_2, ai_3, ai_4, al_1, al_2, al_3, al_4]
  · rw [si_2, fr.a 28 c (by omega)]; subst hσ1; simp [si_1, si_2, sl_1, sl_2, sl_3, ai_1, ai_2, ai_3, ai_4, al_1, al_2, al_3, al_4]
  · intro i hi; rw [si_2, fr.a 30 i (by omega)]; subst hσ1; simp [si_1, si_2, sl_1, sl_2, sl_3, ai_1, ai_2, ai_3, ai_4, al_1, al_2, al_3, al_4]
  · intro k hk; rw [si_2, r3 k hk]; subst hσ1; simp [si_1, si_2, sl_1, sl_2, sl_3, ai_1, ai_2, ai_3, ai_4, al_1, al_2, al_3, al_4]
end
section
/-- a node's parts, from the left -/
def parts (A : Nat → Nat → Int32) (n : Nat) : List Nat :=
  if (A 5 n).toInt ≤ 3 then []
  else if (A 5 n).toInt = 7 ∨ (A 5 n).toInt = 11 then [(A 9 n).toInt.toNat]
  else if (A 5 n).toInt = 6 then [(A 9 n).toInt.toNat, (A 10 n).toInt.toNat, (A 11 n).toInt.toNat]
  else if (A 5 n).toInt = 8 then (A 9 n).toInt.toNat :: (A 10 n).toInt.toNat :: (List.range (A 15 n).toInt.toNat).map (fun j => (A 19 ((A 14 n).toInt.toNat + j)).toInt.toNat)
  else [(A 9 n).toInt.toNat, (A 10 n).toInt.toNat]
def ssum (A : Nat → Nat → Int32) : List Nat → Nat
  | [] => 0
  | p :: l => (A 12 p).toInt.toNat + ssum A l
theorem ssum_append {A : Nat → Nat → Int32} : ∀ {l m : List Nat}, ssum A (l ++ m) = ssum A l + ssum A m
  | [], m => by simp [si_1, si_2, sl_1, sl_2, sl_3, ai_1, ai_2, ai_3, ai_4, al_1, al_2, al_3, al_4, ssum]
  | p :: l, m => by simp only [List.cons_append, ssum, ssum_append (l := l)]; omega
theorem csz_ssum {σ : mSt} {f : Nat} : ∀ {m : Nat}, (∀ j, j < m → 0 ≤ Sz σ (σ.2.2.1 19 (f + j)).toInt.toNat) → csz σ f m = (ssum σ.2.2.1 ((List.range m).map (fun j => (σ.2.2.1 19 (f + j)).toInt.toNat)) : Nat) := by
  intro m
  induction m with
  | zero => intro _; rfl
  | succ m ih =>
    intro h
    have h1 := ih (fun j hj => h j (by omega))
    have h2 := h m (by omega)
    rw [List.range_succ, List.map_append, ssum_append]
    show csz σ f m + Sz σ (σ.2.2.1 19 (f + m)).toInt.toNat = _
    rw [h1]
    simp only [List.map_cons, List.map_nil, ssum]
    unfold Sz at h2 ⊢
    omega
theorem Nd.part {σ : mSt} {C T i p : Nat} (h : Nd σ C T i) (hp : p ∈ parts σ.2.2.1 i) : p < i ∧ Dp σ p < Dp σ i := by
  have hk := h.k
  have pt : ∀ y, Pt σ i y → y ≠ -1 → y.toInt.toNat < i ∧ Dp σ y.toInt.toNat < Dp σ i := by
    intro y hy hn
    rcases hy with hy | ⟨a, b, c⟩
    · contradiction
    · exact ⟨by omega, c⟩
  unfold parts at hp
  unfold K at hk
  have ha := h.ha
  have hb := h.hb
  have hc := h.hc
  unfold K at ha hb hc
  split at hp
  · simp [si_1, si_2, sl_1, sl_2, sl_3, ai_1, ai_2, ai_3, ai_4, al_1, al_2, al_3, al_4] at hp
  split at hp
  · rw [List.mem_singleton] at hp
    subst hp
    exact pt _ h.pa (ha (by omega))
  split at hp
  · simp only [List.mem_cons, List.mem_nil_iff, or_false] at hp
    rcases hp with rfl | rfl | rfl
    · exact pt _ h.pa (ha (by omega))
    · exact pt _ h.pb (hb (by omega))
    · exact pt _ h.pc (hc (by omega))
  split at hp
  · rename_i h8
    simp only [List.mem_cons, List.mem_map, List.mem_range] at hp
    rcases hp with rfl | rfl | ⟨j, hj, rfl⟩
    · exact pt _ h.pa (ha (by omega))
    · exact pt _ h.pb (hb (by omega))
    · have c1 := h.cf h8
      have c2 := h.ce h8 ((σ.2.2.1 14 i).toInt.toNat + j) (by omega) (by omega)
      exact ⟨by omega, c2.2.2⟩
  · simp only [List.mem_cons, List.mem_nil_iff, or_false] at hp
    rcases hp with rfl | rfl
    · exact pt _ h.pa (ha (by omega))
    · exact pt _ h.pb (hb (by omega))
theorem Nd.sum {σ : mSt} {C T i : Nat} (h : Nd σ C T i) (hall : ∀ p, p < i → 1 ≤ Sz σ p) (hs : Sz σ i < 100000) : 1 + (ssum σ.2.2.1 (parts σ.2.2.1 i) : Nat) ≤ Sz σ i := by
  have h2 := h.s2 hs
  have hk := h.k
  have ha := h.ha
  have hb := h.hb
  have hc := h.hc
  have hcm := h.cm
  unfold K at *
  have pt : ∀ y, Pt σ i y → 0 ≤ sz σ y ∧ (y ≠ -1 → sz σ y = ((σ.2.2.1 12 y.toInt.toNat).toInt.toNat : Int)) := by
    intro y hy
    unfold sz
    split
    · rename_i e
      exact ⟨by omega, fun hne => absurd e hne⟩
    · rcases hy with hy | ⟨a, b, c⟩
      · contradiction
      · have := hall y.toInt.toNat (by omega)
        unfold Sz at *
        exact ⟨by omega, fun _ => by omega⟩
  have qa := pt _ h.pa
  have qb := pt _ h.pb
  have qc := pt _ h.pc
  have q0 : 0 ≤ csz σ (σ.2.2.1 14 i).toInt.toNat (σ.2.2.1 15 i).toInt.toNat := by
    by_cases h8 : (σ.2.2.1 5 i).toInt = 8
    · rw [csz_ssum]
      · omega
      · intro j hj
        have c1 := h.cf h8
        have c2 := h.ce h8 ((σ.2.2.1 14 i).toInt.toNat + j) (by omega) (by omega)
        have := hall (σ.2.2.1 19 ((σ.2.2.1 14 i).toInt.toNat + j)).toInt.toNat (by omega)
        omega
    · rw [hcm.2 h8]; exact Int.le_refl _
  unfold parts
  split
  · simp only [ssum]; omega
  split
  · have := qa.2 (ha (by omega))
    simp only [ssum]; omega
  split
  · have e1 := qa.2 (ha (by omega))
    have e2 := qb.2 (hb (by omega))
    have e3 := qc.2 (hc (by omega))
    simp only [ssum]; omega
  split
  · rename_i h8
    have e1 := qa.2 (ha (by omega))
    have e2 := qb.2 (hb (by omega))
    have e4 : csz σ (σ.2.2.1 14 i).toInt.toNat (σ.2.2.1 15 i).toInt.toNat = (ssum σ.2.2.1 ((List.range (σ.2.2.1 15 i).toInt.toNat).map (fun j => (σ.2.2.1 19 ((σ.2.2.1 14 i).toInt.toNat + j)).toInt.toNat)) : Nat) := by
      apply csz_ssum
      intro j hj
      have c1 := h.cf h8
      have c2 := h.ce h8 ((σ.2.2.1 14 i).toInt.toNat + j) (by omega) (by omega)
      have := hall (σ.2.2.1 19 ((σ.2.2.1 14 i).toInt.toNat + j)).toInt.toNat (by omega)
      omega
    simp only [ssum]; omega
  · have e1 := qa.2 (ha (by omega))
    have e2 := qb.2 (hb (by omega))
    simp only [ssum]; omega
end
section
def en (σ : mSt) (i : Nat) : Nat := (σ.2.2.1 26 i).toInt.toNat
def es (σ : mSt) (i : Nat) : Nat := (σ.2.2.1 27 i).toInt.toNat
def ec (σ : mSt) (i : Nat) : Nat := (σ.2.2.1 28 i).toInt.toNat
def row (σ : mSt) (i : Nat) : Nat → Int := fun k => if k < 10 then (σ.2.2.1 30 (10 * i + k)).toInt else -1
def psum (A : Nat → Nat → Int32) : List Nat → Nat
  | [] => 0
  | p :: l => ((A 12 p).toInt.toNat - 1) + psum A l
def unv (A : Nat → Nat → Int32) (n s : Nat) : Nat := ssum A ((parts A n).drop s)
/-- types that may yet come of a node -/
def pot (A : Nat → Nat → Int32) (n s : Nat) : Nat := psum A ((parts A n).drop s) + (if (A 5 n).toInt = 7 then 1 else if (A 5 n).toInt = 8 then (parts A n).length - max s 2 else 0)
def sumTo (f : Nat → Nat) : Nat → Nat
  | 0 => 0
  | c + 1 => sumTo f c + f c
theorem sumTo_congr {f g : Nat → Nat} : ∀ {c : Nat}, (∀ i, i < c → f i = g i) → sumTo f c = sumTo g c
  | 0, _ => rfl
  | c + 1, h => by simp only [sumTo]; rw [sumTo_congr (fun i hi => h i (by omega)), h c (by omega)]
/-- an entry (its names, node, stage, type so far) waits for a part in its names -/
def Wj (A : Nat → Nat → Int32) (P : Facts) (tk gv : Nat → Nat) (T : Nat) (i_0 : (Nat → Int)) (i_1 : Nat) (i_2 : Nat) (i_3 : Nat) (i_4 : (Nat → Int)) (i_5 : Nat) : Prop := ∀ R_ : (Nat → Int) → Nat → Nat → Nat → (Nat → Int) → Nat → Prop, (∀ (g : Nat → Int) (n ct : Nat), (A 5 n).toInt = 4 → R_ g n 1 ct g (A 9 n).toInt.toNat) → (∀ (g : Nat → Int) (n ct t : Nat), (A 5 n).toInt = 4 → Ty A P tk gv g (A 9 n).toInt.toNat t → R_ g n 2 ct (env g (A 6 n).toInt.toNat t) (A 10 n).toInt.toNat) → (∀ (g : Nat → Int) (n ct f a r : Nat), (A 5 n).toInt = 5 → (A 8 n).toInt = f → P.fn f a r → R_ g n 1 ct (env (env g (A 6 n).toInt.toNat f) (A 7 n).toInt.toNat a) (A 9 n).toInt.toNat) → (∀ (g : Nat → Int) (n ct f a r t : Nat), (A 5 n).toInt = 5 → (A 8 n).toInt = f → P.fn f a r → Ty A P tk gv (env (env g (A 6 n).toInt.toNat f) (A 7 n).toInt.toNat a) (A 9 n).toInt.toNat t → P.fit t r → R_ g n 2 ct (env g (A 6 n).toInt.toNat f) (A 10 n).toInt.toNat) → (∀ (g : Nat → Int) (n ct : Nat), (A 5 n).toInt = 6 → R_ g n 1 ct g (A 9 n).toInt.toNat) → (∀ (g : Nat → Int) (n ct : Nat), (A 5 n).toInt = 6 → Ty A P tk gv g (A 9 n).toInt.toNat 1 → R_ g n 2 ct g (A 10 n).toInt.toNat) → (∀ (g : Nat → Int) (n ct : Nat), (A 5 n).toInt = 6 → Ty A P tk gv g (A 9 n).toInt.toNat 1 → Ty A P tk gv g (A 10 n).toInt.toNat ct → R_ g n 3 ct g (A 11 n).toInt.toNat) → (∀ (g : Nat → Int) (n ct a : Nat), (A 5 n).toInt = 7 → (A 7 n).toInt = a → R_ g n 1 ct (env g (A 6 n).toInt.toNat a) (A 9 n).toInt.toNat) → (∀ (g : Nat → Int) (n ct : Nat), (A 5 n).toInt = 8 → R_ g n 1 ct g (A 9 n).toInt.toNat) → (∀ (g : Nat → Int) (n ct t : Nat), (A 5 n).toInt = 8 → Ty A P tk gv g (A 9 n).toInt.toNat t → R_ g n 2 ct (env g (A 6 n).toInt.toNat t) (A 10 n).toInt.toNat) → (∀ (g : Nat → Int) (n ct t j : Nat) (ks us : Nat → Nat), (A 5 n).toInt = 8 → j < (A 15 n).toInt.toNat → Ty A P tk gv g (A 9 n).toInt.toNat t → Ty A P tk gv (env g (A 6 n).toInt.toNat t) (A 10 n).toInt.toNat ct → ct < T → (∀ q, (A 14 n).toInt.toNat ≤ q → q < (A 14 n).toInt.toNat + j + 1 → P.fn (ks q) (gv (A 16 q).toInt.toNat) ct) → (∀ q, (A 14 n).toInt.toNat ≤ q → q < (A 14 n).toInt.toNat + j → Ty A P tk gv (env (env g (A 17 q).toInt.toNat (tk (A 16 q).toInt.toNat)) (A 18 q).toInt.toNat (ks q)) (A 19 q).toInt.toNat (us q)) → (∀ q, (A 14 n).toInt.toNat ≤ q → q < (A 14 n).toInt.toNat + j → P.fit (us q) ct) → R_ g n (3 + j) ct (env (env g (A 17 ((A 14 n).toInt.toNat + j)).toInt.toNat (tk (A 16 ((A 14 n).toInt.toNat + j)).toInt.toNat)) (A 18 ((A 14 n).toInt.toNat + j)).toInt.toNat (ks ((A 14 n).toInt.toNat + j))) (A 19 ((A 14 n).toInt.toNat + j)).toInt.toNat) → (∀ (g : Nat → Int) (n ct : Nat), (A 5 n).toInt = 9 → R_ g n 1 ct g (A 9 n).toInt.toNat) → (∀ (g : Nat → Int) (n ct : Nat), (A 5 n).toInt = 9 → Ty A P tk gv g (A 9 n).toInt.toNat ct → R_ g n 2 ct g (A 10 n).toInt.toNat) → (∀ (g : Nat → Int) (n ct : Nat), (A 5 n).toInt = 10 → R_ g n 1 ct g (A 9 n).toInt.toNat) → (∀ (g : Nat → Int) (n ct a r : Nat), (A 5 n).toInt = 10 → Ty A P tk gv g (A 9 n).toInt.toNat ct → P.fn ct a r → R_ g n 2 ct g (A 10 n).toInt.toNat) → (∀ (g : Nat → Int) (n ct : Nat), (A 5 n).toInt = 11 → R_ g n 1 ct g (A 9 n).toInt.toNat) → R_ i_0 i_1 i_2 i_3 i_4 i_5
theorem Wj.let1 {A : Nat → Nat → Int32} {P : Facts} {tk gv : Nat → Nat} {T : Nat} {g : Nat → Int} {n ct : Nat} (p_0 : (A 5 n).toInt = 4) : Wj A P tk gv T g n 1 ct g (A 9 n).toInt.toNat := fun R_ h_0 h_1 h_2 h_3 h_4 h_5 h_6 h_7 h_8 h_9 h_10 h_11 h_12 h_13 h_14 h_15 => h_0 g n ct p_0
theorem Wj.let2 {A : Nat → Nat → Int32} {P : Facts} {tk gv : Nat → Nat} {T : Nat} {g : Nat → Int} {n ct t : Nat} (p_0 : (A 5 n).toInt = 4) (p_1 : Ty A P tk gv g (A 9 n).toInt.toNat t) : Wj A P tk gv T g n 2 ct (env g (A 6 n).toInt.toNat t) (A 10 n).toInt.toNat := fun R_ h_0 h_1 h_2 h_3 h_4 h_5 h_6 h_7 h_8 h_9 h_10 h_11 h_12 h_13 h_14 h_15 => h_1 g n ct t p_0 p_1
theorem Wj.rec1 {A : Nat → Nat → Int32} {P : Facts} {tk gv : Nat → Nat} {T : Nat} {g : Nat → Int} {n ct f a r : Nat} (p_0 : (A 5 n).toInt = 5) (p_1 : (A 8 n).toInt = f) (p_2 : P.fn f a r) : Wj A P tk gv T g n 1 ct (env (env g (A 6 n).toInt.toNat f) (A 7 n).toInt.toNat a) (A 9 n).toInt.toNat := fun R_ h_0 h_1 h_2 h_3 h_4 h_5 h_6 h_7 h_8 h_9 h_10 h_11 h_12 h_13 h_14 h_15 => h_2 g n ct f a r p_0 p_1 p_2
theorem Wj.rec2 {A : Nat → Nat → Int32} {P : Facts} {tk gv : Nat → Nat} {T : Nat} {g : Nat → Int} {n ct f a r t : Nat} (p_0 : (A 5 n).toInt = 5) (p_1 : (A 8 n).toInt = f) (p_2 : P.fn f a r) (p_3 : Ty A P tk gv (env (env g (A 6 n).toInt.toNat f) (A 7 n).toInt.toNat a) (A 9 n).toInt.toNat t) (p_4 : P.fit t r) : Wj A P tk gv T g n 2 ct (env g (A 6 n).toInt.toNat f) (A 10 n).toInt.toNat := fun R_ h_0 h_1 h_2 h_3 h_4 h_5 h_6 h_7 h_8 h_9 h_10 h_11 h_12 h_13 h_14 h_15 => h_3 g n ct f a r t p_0 p_1 p_2 p_3 p_4
theorem Wj.if1 {A : Nat → Nat → Int32} {P : Facts} {tk gv : Nat → Nat} {T : Nat} {g : Nat → Int} {n ct : Nat} (p_0 : (A 5 n).toInt = 6) : Wj A P tk gv T g n 1 ct g (A 9 n).toInt.toNat := fun R_ h_0 h_1 h_2 h_3 h_4 h_5 h_6 h_7 h_8 h_9 h_10 h_11 h_12 h_13 h_14 h_15 => h_4 g n ct p_0
theorem Wj.if2 {A : Nat → Nat → Int32} {P : Facts} {tk gv : Nat → Nat} {T : Nat} {g : Nat → Int} {n ct : Nat} (p_0 : (A 5 n).toInt = 6) (p_1 : Ty A P tk gv g (A 9 n).toInt.toNat 1) : Wj A P tk gv T g n 2 ct g (A 10 n).toInt.toNat := fun R_ h_0 h_1 h_2 h_3 h_4 h_5 h_6 h_7 h_8 h_9 h_10 h_11 h_12 h_13 h_14 h_15 => h_5 g n ct p_0 p_1
theorem Wj.if3 {A : Nat → Nat → Int32} {P : Facts} {tk gv : Nat → Nat} {T : Nat} {g : Nat → Int} {n ct : Nat} (p_0 : (A 5 n).toInt = 6) (p_1 : Ty A P tk gv g (A 9 n).toInt.toNat 1) (p_2 : Ty A P tk gv g (A 10 n).toInt.toNat ct) : Wj A P tk gv T g n 3 ct g (A 11 n).toInt.toNat := fun R_ h_0 h_1 h_2 h_3 h_4 h_5 h_6 h_7 h_8 h_9 h_10 h_11 h_12 h_13 h_14 h_15 => h_6 g n ct p_0 p_1 p_2
theorem Wj.fn1 {A : Nat → Nat → Int32} {P : Facts} {tk gv : Nat → Nat} {T : Nat} {g : Nat → Int} {n ct a : Nat} (p_0 : (A 5 n).toInt = 7) (p_1 : (A 7 n).toInt = a) : Wj A P tk gv T g n 1 ct (env g (A 6 n).toInt.toNat a) (A 9 n).toInt.toNat := fun R_ h_0 h_1 h_2 h_3 h_4 h_5 h_6 h_7 h_8 h_9 h_10 h_11 h_12 h_13 h_14 h_15 => h_7 g n ct a p_0 p_1
theorem Wj.han1 {A : Nat → Nat → Int32} {P : Facts} {tk gv : Nat → Nat} {T : Nat} {g : Nat → Int} {n ct : Nat} (p_0 : (A 5 n).toInt = 8) : Wj A P tk gv T g n 1 ct g (A 9 n).toInt.toNat := fun R_ h_0 h_1 h_2 h_3 h_4 h_5 h_6 h_7 h_8 h_9 h_10 h_11 h_12 h_13 h_14 h_15 => h_8 g n ct p_0
theorem Wj.han2 {A : Nat → Nat → Int32} {P : Facts} {tk gv : Nat → Nat} {T : Nat} {g : Nat → Int} {n ct t : Nat} (p_0 : (A 5 n).toInt = 8) (p_1 : Ty A P tk gv g (A 9 n).toInt.toNat t) : Wj A P tk gv T g n 2 ct (env g (A 6 n).toInt.toNat t) (A 10 n).toInt.toNat := fun R_ h_0 h_1 h_2 h_3 h_4 h_5 h_6 h_7 h_8 h_9 h_10 h_11 h_12 h_13 h_14 h_15 => h_9 g n ct t p_0 p_1
theorem Wj.han3 {A : Nat → Nat → Int32} {P : Facts} {tk gv : Nat → Nat} {T : Nat} {g : Nat → Int} {n ct t j : Nat} (ks us : Nat → Nat) (p_0 : (A 5 n).toInt = 8) (p_1 : j < (A 15 n).toInt.toNat) (p_2 : Ty A P tk gv g (A 9 n).toInt.toNat t) (p_3 : Ty A P tk gv (env g (A 6 n).toInt.toNat t) (A 10 n).toInt.toNat ct) (p_4 : ct < T) (p_5 : (∀ q, (A 14 n).toInt.toNat ≤ q → q < (A 14 n).toInt.toNat + j + 1 → P.fn (ks q) (gv (A 16 q).toInt.toNat) ct)) (p_6 : (∀ q, (A 14 n).toInt.toNat ≤ q → q < (A 14 n).toInt.toNat + j → Ty A P tk gv (env (env g (A 17 q).toInt.toNat (tk (A 16 q).toInt.toNat)) (A 18 q).toInt.toNat (ks q)) (A 19 q).toInt.toNat (us q))) (p_7 : (∀ q, (A 14 n).toInt.toNat ≤ q → q < (A 14 n).toInt.toNat + j → P.fit (us q) ct)) : Wj A P tk gv T g n (3 + j) ct (env (env g (A 17 ((A 14 n).toInt.toNat + j)).toInt.toNat (tk (A 16 ((A 14 n).toInt.toNat + j)).toInt.toNat)) (A 18 ((A 14 n).toInt.toNat + j)).toInt.toNat (ks ((A 14 n).toInt.toNat + j))) (A 19 ((A 14 n).toInt.toNat + j)).toInt.toNat := fun R_ h_0 h_1 h_2 h_3 h_4 h_5 h_6 h_7 h_8 h_9 h_10 h_11 h_12 h_13 h_14 h_15 => h_10 g n ct t j ks us p_0 p_1 p_2 p_3 p_4 p_5 p_6 p_7
theorem Wj.two1 {A : Nat → Nat → Int32} {P : Facts} {tk gv : Nat → Nat} {T : Nat} {g : Nat → Int} {n ct : Nat} (p_0 : (A 5 n).toInt = 9) : Wj A P tk gv T g n 1 ct g (A 9 n).toInt.toNat := fun R_ h_0 h_1 h_2 h_3 h_4 h_5 h_6 h_7 h_8 h_9 h_10 h_11 h_12 h_13 h_14 h_15 => h_11 g n ct p_0
theorem Wj.two2 {A : Nat → Nat → Int32} {P : Facts} {tk gv : Nat → Nat} {T : Nat} {g : Nat → Int} {n ct : Nat} (p_0 : (A 5 n).toInt = 9) (p_1 : Ty A P tk gv g (A 9 n).toInt.toNat ct) : Wj A P tk gv T g n 2 ct g (A 10 n).toInt.toNat := fun R_ h_0 h_1 h_2 h_3 h_4 h_5 h_6 h_7 h_8 h_9 h_10 h_11 h_12 h_13 h_14 h_15 => h_12 g n ct p_0 p_1
theorem Wj.cal1 {A : Nat → Nat → Int32} {P : Facts} {tk gv : Nat → Nat} {T : Nat} {g : Nat → Int} {n ct : Nat} (p_0 : (A 5 n).toInt = 10) : Wj A P tk gv T g n 1 ct g (A 9 n).toInt.toNat := fun R_ h_0 h_1 h_2 h_3 h_4 h_5 h_6 h_7 h_8 h_9 h_10 h_11 h_12 h_13 h_14 h_15 => h_13 g n ct p_0
theorem Wj.cal2 {A : Nat → Nat → Int32} {P : Facts} {tk gv : Nat → Nat} {T : Nat} {g : Nat → Int} {n ct a r : Nat} (p_0 : (A 5 n).toInt = 10) (p_1 : Ty A P tk gv g (A 9 n).toInt.toNat ct) (p_2 : P.fn ct a r) : Wj A P tk gv T g n 2 ct g (A 10 n).toInt.toNat := fun R_ h_0 h_1 h_2 h_3 h_4 h_5 h_6 h_7 h_8 h_9 h_10 h_11 h_12 h_13 h_14 h_15 => h_14 g n ct a r p_0 p_1 p_2
theorem Wj.per1 {A : Nat → Nat → Int32} {P : Facts} {tk gv : Nat → Nat} {T : Nat} {g : Nat → Int} {n ct : Nat} (p_0 : (A 5 n).toInt = 11) : Wj A P tk gv T g n 1 ct g (A 9 n).toInt.toNat := fun R_ h_0 h_1 h_2 h_3 h_4 h_5 h_6 h_7 h_8 h_9 h_10 h_11 h_12 h_13 h_14 h_15 => h_15 g n ct p_0
theorem Wj.ind {A : Nat → Nat → Int32} {P : Facts} {tk gv : Nat → Nat} {T : Nat} {motive : ∀ (i_0 : (Nat → Int)) (i_1 : Nat) (i_2 : Nat) (i_3 : Nat) (i_4 : (Nat → Int)) (i_5 : Nat), Wj A P tk gv T i_0 i_1 i_2 i_3 i_4 i_5 → Prop} (let1 : ∀ {g : Nat → Int} {n ct : Nat} (p_0 : (A 5 n).toInt = 4), motive g n 1 ct g (A 9 n).toInt.toNat (Wj.let1 p_0)) (let2 : ∀ {g : Nat → Int} {n ct t : Nat} (p_0 : (A 5 n).toInt = 4) (p_1 : Ty A P tk gv g (A 9 n).toInt.toNat t), motive g n 2 ct (env g (A 6 n).toInt.toNat t) (A 10 n).toInt.toNat (Wj.let2 p_0 p_1)) (rec1 : ∀ {g : Nat → Int} {n ct f a r : Nat} (p_0 : (A 5 n).toInt = 5) (p_1 : (A 8 n).toInt = f) (p_2 : P.fn f a r), motive g n 1 ct (env (env g (A 6 n).toInt.toNat f) (A 7 n).toInt.toNat a) (A 9 n).toInt.toNat (Wj.rec1 p_0 p_1 p_2)) (rec2 : ∀ {g : Nat → Int} {n ct f a r t : Nat} (p_0 : (A 5 n).toInt = 5) (p_1 : (A 8 n).toInt = f) (p_2 : P.fn f a r) (p_3 : Ty A P tk gv (env (env g (A 6 n).toInt.toNat f) (A 7 n).toInt.toNat a) (A 9 n).toInt.toNat t) (p_4 : P.fit t r), motive g n 2 ct (env g (A 6 n).toInt.toNat f) (A 10 n).toInt.toNat (Wj.rec2 p_0 p_1 p_2 p_3 p_4)) (if1 : ∀ {g : Nat → Int} {n ct : Nat} (p_0 : (A 5 n).toInt = 6), motive g n 1 ct g (A 9 n).toInt.toNat (Wj.if1 p_0)) (if2 : ∀ {g : Nat → Int} {n ct : Nat} (p_0 : (A 5 n).toInt = 6) (p_1 : Ty A P tk gv g (A 9 n).toInt.toNat 1), motive g n 2 ct g (A 10 n).toInt.toNat (Wj.if2 p_0 p_1)) (if3 : ∀ {g : Nat → Int} {n ct : Nat} (p_0 : (A 5 n).toInt = 6) (p_1 : Ty A P tk gv g (A 9 n).toInt.toNat 1) (p_2 : Ty A P tk gv g (A 10 n).toInt.toNat ct), motive g n 3 ct g (A 11 n).toInt.toNat (Wj.if3 p_0 p_1 p_2)) (fn1 : ∀ {g : Nat → Int} {n ct a : Nat} (p_0 : (A 5 n).toInt = 7) (p_1 : (A 7 n).toInt = a), motive g n 1 ct (env g (A 6 n).toInt.toNat a) (A 9 n).toInt.toNat (Wj.fn1 p_0 p_1)) (han1 : ∀ {g : Nat → Int} {n ct : Nat} (p_0 : (A 5 n).toInt = 8), motive g n 1 ct g (A 9 n).toInt.toNat (Wj.han1 p_0)) (han2 : ∀ {g : Nat → Int} {n ct t : Nat} (p_0 : (A 5 n).toInt = 8) (p_1 : Ty A P tk gv g (A 9 n).toInt.toNat t), motive g n 2 ct (env g (A 6 n).toInt.toNat t) (A 10 n).toInt.toNat (Wj.han2 p_0 p_1)) (han3 : ∀ {g : Nat → Int} {n ct t j : Nat} (ks us : Nat → Nat) (p_0 : (A 5 n).toInt = 8) (p_1 : j < (A 15 n).toInt.toNat) (p_2 : Ty A P tk gv g (A 9 n).toInt.toNat t) (p_3 : Ty A P tk gv (env g (A 6 n).toInt.toNat t) (A 10 n).toInt.toNat ct) (p_4 : ct < T) (p_5 : (∀ q, (A 14 n).toInt.toNat ≤ q → q < (A 14 n).toInt.toNat + j + 1 → P.fn (ks q) (gv (A 16 q).toInt.toNat) ct)) (p_6 : (∀ q, (A 14 n).toInt.toNat ≤ q → q < (A 14 n).toInt.toNat + j → Ty A P tk gv (env (env g (A 17 q).toInt.toNat (tk (A 16 q).toInt.toNat)) (A 18 q).toInt.toNat (ks q)) (A 19 q).toInt.toNat (us q))) (p_7 : (∀ q, (A 14 n).toInt.toNat ≤ q → q < (A 14 n).toInt.toNat + j → P.fit (us q) ct)), motive g n (3 + j) ct (env (env g (A 17 ((A 14 n).toInt.toNat + j)).toInt.toNat (tk (A 16 ((A 14 n).toInt.toNat + j)).toInt.toNat)) (A 18 ((A 14 n).toInt.toNat + j)).toInt.toNat (ks ((A 14 n).toInt.toNat + j))) (A 19 ((A 14 n).toInt.toNat + j)).toInt.toNat (Wj.han3 ks us p_0 p_1 p_2 p_3 p_4 p_5 p_6 p_7)) (two1 : ∀ {g : Nat → Int} {n ct : Nat} (p_0 : (A 5 n).toInt = 9), motive g n 1 ct g (A 9 n).toInt.toNat (Wj.two1 p_0)) (two2 : ∀ {g : Nat → Int} {n ct : Nat} (p_0 : (A 5 n).toInt = 9) (p_1 : Ty A P tk gv g (A 9 n).toInt.toNat ct), motive g n 2 ct g (A 10 n).toInt.toNat (Wj.two2 p_0 p_1)) (cal1 : ∀ {g : Nat → Int} {n ct : Nat} (p_0 : (A 5 n).toInt = 10), motive g n 1 ct g (A 9 n).toInt.toNat (Wj.cal1 p_0)) (cal2 : ∀ {g : Nat → Int} {n ct a r : Nat} (p_0 : (A 5 n).toInt = 10) (p_1 : Ty A P tk gv g (A 9 n).toInt.toNat ct) (p_2 : P.fn ct a r), motive g n 2 ct g (A 10 n).toInt.toNat (Wj.cal2 p_0 p_1 p_2)) (per1 : ∀ {g : Nat → Int} {n ct : Nat} (p_0 : (A 5 n).toInt = 11), motive g n 1 ct g (A 9 n).toInt.toNat (Wj.per1 p_0)) {i_0 : (Nat → Int)} {i_1 : Nat} {i_2 : Nat} {i_3 : Nat} {i_4 : (Nat → Int)} {i_5 : Nat} (h : Wj A P tk gv T i_0 i_1 i_2 i_3 i_4 i_5) : motive i_0 i_1 i_2 i_3 i_4 i_5 h := Exists.elim (h (fun i_0 i_1 i_2 i_3 i_4 i_5 => ∃ h : Wj A P tk gv T i_0 i_1 i_2 i_3 i_4 i_5, motive i_0 i_1 i_2 i_3 i_4 i_5 h) (fun g n ct p_0 => ⟨Wj.let1 p_0, let1 p_0⟩) (fun g n ct t p_0 p_1 => ⟨Wj.let2 p_0 p_1, let2 p_0 p_1⟩) (fun g n ct f a r p_0 p_1 p_2 => ⟨Wj.rec1 p_0 p_1 p_2, rec1 p_0 p_1 p_2⟩) (fun g n ct f a r t p_0 p_1 p_2 p_3 p_4 => ⟨Wj.rec2 p_0 p_1 p_2 p_3 p_4, rec2 p_0 p_1 p_2 p_3 p_4⟩) (fun g n ct p_0 => ⟨Wj.if1 p_0, if1 p_0⟩) (fun g n ct p_0 p_1 => ⟨Wj.if2 p_0 p_1, if2 p_0 p_1⟩) (fun g n ct p_0 p_1 p_2 => ⟨Wj.if3 p_0 p_1 p_2, if3 p_0 p_1 p_2⟩) (fun g n ct a p_0 p_1 => ⟨Wj.fn1 p_0 p_1, fn1 p_0 p_1⟩) (fun g n ct p_0 => ⟨Wj.han1 p_0, han1 p_0⟩) (fun g n ct t p_0 p_1 => ⟨Wj.han2 p_0 p_1, han2 p_0 p_1⟩) (fun g n ct t j ks us p_0 p_1 p_2 p_3 p_4 p_5 p_6 p_7 => ⟨Wj.han3 ks us p_0 p_1 p_2 p_3 p_4 p_5 p_6 p_7, han3 ks us p_0 p_1 p_2 p_3 p_4 p_5 p_6 p_7⟩) (fun g n ct p_0 => ⟨Wj.two1 p_0, two1 p_0⟩) (fun g n ct p_0 p_1 => ⟨Wj.two2 p_0 p_1, two2 p_0 p_1⟩) (fun g n ct p_0 => ⟨Wj.cal1 p_0, cal1 p_0⟩) (fun g n ct a r p_0 p_1 p_2 => ⟨Wj.cal2 p_0 p_1 p_2, cal2 p_0 p_1 p_2⟩) (fun g n ct p_0 => ⟨Wj.per1 p_0, per1 p_0⟩)) (fun _ m => m)
theorem Wj.cs {A : Nat → Nat → Int32} {P : Facts} {tk gv : Nat → Nat} {T : Nat} {motive : ∀ (i_0 : (Nat → Int)) (i_1 : Nat) (i_2 : Nat) (i_3 : Nat) (i_4 : (Nat → Int)) (i_5 : Nat), Wj A P tk gv T i_0 i_1 i_2 i_3 i_4 i_5 → Prop} (let1 : ∀ {g : Nat → Int} {n ct : Nat} (p_0 : (A 5 n).toInt = 4), motive g n 1 ct g (A 9 n).toInt.toNat (Wj.let1 p_0)) (let2 : ∀ {g : Nat → Int} {n ct t : Nat} (p_0 : (A 5 n).toInt = 4) (p_1 : Ty A P tk gv g (A 9 n).toInt.toNat t), motive g n 2 ct (env g (A 6 n).toInt.toNat t) (A 10 n).toInt.toNat (Wj.let2 p_0 p_1)) (rec1 : ∀ {g : Nat → Int} {n ct f a r : Nat} (p_0 : (A 5 n).toInt = 5) (p_1 : (A 8 n).toInt = f) (p_2 : P.fn f a r), motive g n 1 ct (env (env g (A 6 n).toInt.toNat f) (A 7 n).toInt.toNat a) (A 9 n).toInt.toNat (Wj.rec1 p_0 p_1 p_2)) (rec2 : ∀ {g : Nat → Int} {n ct f a r t : Nat} (p_0 : (A 5 n).toInt = 5) (p_1 : (A 8 n).toInt = f) (p_2 : P.fn f a r) (p_3 : Ty A P tk gv (env (env g (A 6 n).toInt.toNat f) (A 7 n).toInt.toNat a) (A 9 n).toInt.toNat t) (p_4 : P.fit t r), motive g n 2 ct (env g (A 6 n).toInt.toNat f) (A 10 n).toInt.toNat (Wj.rec2 p_0 p_1 p_2 p_3 p_4)) (if1 : ∀ {g : Nat → Int} {n ct : Nat} (p_0 : (A 5 n).toInt = 6), motive g n 1 ct g (A 9 n).toInt.toNat (Wj.if1 p_0)) (if2 : ∀ {g : Nat → Int} {n ct : Nat} (p_0 : (A 5 n).toInt = 6) (p_1 : Ty A P tk gv g (A 9 n).toInt.toNat 1), motive g n 2 ct g (A 10 n).toInt.toNat (Wj.if2 p_0 p_1)) (if3 : ∀ {g : Nat → Int} {n ct : Nat} (p_0 : (A 5 n).toInt = 6) (p_1 : Ty A P tk gv g (A 9 n).toInt.toNat 1) (p_2 : Ty A P tk gv g (A 10 n).toInt.toNat ct), motive g n 3 ct g (A 11 n).toInt.toNat (Wj.if3 p_0 p_1 p_2)) (fn1 : ∀ {g : Nat → Int} {n ct a : Nat} (p_0 : (A 5 n).toInt = 7) (p_1 : (A 7 n).toInt = a), motive g n 1 ct (env g (A 6 n).toInt.toNat a) (A 9 n).toInt.toNat (Wj.fn1 p_0 p_1)) (han1 : ∀ {g : Nat → Int} {n ct : Nat} (p_0 : (A 5 n).toInt = 8), motive g n 1 ct g (A 9 n).toInt.toNat (Wj.han1 p_0)) (han2 : ∀ {g : Nat → Int} {n ct t : Nat} (p_0 : (A 5 n).toInt = 8) (p_1 : Ty A P tk gv g (A 9 n).toInt.toNat t), motive g n 2 ct (env g (A 6 n).toInt.toNat t) (A 10 n).toInt.toNat (Wj.han2 p_0 p_1)) (han3 : ∀ {g : Nat → Int} {n ct t j : Nat} (ks us : Nat → Nat) (p_0 : (A 5 n).toInt = 8) (p_1 : j < (A 15 n).toInt.toNat) (p_2 : Ty A P tk gv g (A 9 n).toInt.toNat t) (p_3 : Ty A P tk gv (env g (A 6 n).toInt.toNat t) (A 10 n).toInt.toNat ct) (p_4 : ct < T) (p_5 : (∀ q, (A 14 n).toInt.toNat ≤ q → q < (A 14 n).toInt.toNat + j + 1 → P.fn (ks q) (gv (A 16 q).toInt.toNat) ct)) (p_6 : (∀ q, (A 14 n).toInt.toNat ≤ q → q < (A 14 n).toInt.toNat + j → Ty A P tk gv (env (env g (A 17 q).toInt.toNat (tk (A 16 q).toInt.toNat)) (A 18 q).toInt.toNat (ks q)) (A 19 q).toInt.toNat (us q))) (p_7 : (∀ q, (A 14 n).toInt.toNat ≤ q → q < (A 14 n).toInt.toNat + j → P.fit (us q) ct)), motive g n (3 + j) ct (env (env g (A 17 ((A 14 n).toInt.toNat + j)).toInt.toNat (tk (A 16 ((A 14 n).toInt.toNat + j)).toInt.toNat)) (A 18 ((A 14 n).toInt.toNat + j)).toInt.toNat (ks ((A 14 n).toInt.toNat + j))) (A 19 ((A 14 n).toInt.toNat + j)).toInt.toNat (Wj.han3 ks us p_0 p_1 p_2 p_3 p_4 p_5 p_6 p_7)) (two1 : ∀ {g : Nat → Int} {n ct : Nat} (p_0 : (A 5 n).toInt = 9), motive g n 1 ct g (A 9 n).toInt.toNat (Wj.two1 p_0)) (two2 : ∀ {g : Nat → Int} {n ct : Nat} (p_0 : (A 5 n).toInt = 9) (p_1 : Ty A P tk gv g (A 9 n).toInt.toNat ct), motive g n 2 ct g (A 10 n).toInt.toNat (Wj.two2 p_0 p_1)) (cal1 : ∀ {g : Nat → Int} {n ct : Nat} (p_0 : (A 5 n).toInt = 10), motive g n 1 ct g (A 9 n).toInt.toNat (Wj.cal1 p_0)) (cal2 : ∀ {g : Nat → Int} {n ct a r : Nat} (p_0 : (A 5 n).toInt = 10) (p_1 : Ty A P tk gv g (A 9 n).toInt.toNat ct) (p_2 : P.fn ct a r), motive g n 2 ct g (A 10 n).toInt.toNat (Wj.cal2 p_0 p_1 p_2)) (per1 : ∀ {g : Nat → Int} {n ct : Nat} (p_0 : (A 5 n).toInt = 11), motive g n 1 ct g (A 9 n).toInt.toNat (Wj.per1 p_0)) {i_0 : (Nat → Int)} {i_1 : Nat} {i_2 : Nat} {i_3 : Nat} {i_4 : (Nat → Int)} {i_5 : Nat} (h : Wj A P tk gv T i_0 i_1 i_2 i_3 i_4 i_5) : motive i_0 i_1 i_2 i_3 i_4 i_5 h := Wj.ind (motive := motive) (fun p_0 => let1 p_0) (fun p_0 p_1 => let2 p_0 p_1) (fun p_0 p_1 p_2 => rec1 p_0 p_1 p_2) (fun p_0 p_1 p_2 p_3 p_4 => rec2 p_0 p_1 p_2 p_3 p_4) (fun p_0 => if1 p_0) (fun p_0 p_1 => if2 p_0 p_1) (fun p_0 p_1 p_2 => if3 p_0 p_1 p_2) (fun p_0 p_1 => fn1 p_0 p_1) (fun p_0 => han1 p_0) (fun p_0 p_1 => han2 p_0 p_1) (fun ks us p_0 p_1 p_2 p_3 p_4 p_5 p_6 p_7 => han3 ks us p_0 p_1 p_2 p_3 p_4 p_5 p_6 p_7) (fun p_0 => two1 p_0) (fun p_0 p_1 => two2 p_0 p_1) (fun p_0 => cal1 p_0) (fun p_0 p_1 p_2 => cal2 p_0 p_1 p_2) (fun p_0 => per1 p_0) h
theorem Wj.mono {A : Nat → Nat → Int32} {P Q : Facts} {tk gv : Nat → Nat} {T T' : Nat} (hT : T ≤ T') (hP : P.le Q) {g g' : Nat → Int} {n s ct m : Nat} (h : Wj A P tk gv T g n s ct g' m) : Wj A Q tk gv T' g n s ct g' m := by
  cases h using Wj.cs with
  | let1 h => exact .let1 h
  | let2 h a => exact .let2 h (a.mono hP)
  | rec1 h a b => exact .rec1 h a (hP.1 _ _ _ b)
  | rec2 h a b c d => exact .rec2 h a (hP.1 _ _ _ b) (c.mono hP) (hP.2 _ _ d)
  | if1 h => exact .if1 h
  | if2 h a => exact .if2 h (a.mono hP)
  | if3 h a b => exact .if3 h (a.mono hP) (b.mono hP)
  | fn1 h a => exact .fn1 h a
  | han1 h => exact .han1 h
  | han2 h a => exact .han2 h (a.mono hP)
  | han3 ks us h hj a b c d e f => exact .han3 ks us h hj (a.mono hP) (b.mono hP) (by omega) (fun q h1 h2 => hP.1 _ _ _ (d q h1 h2)) (fun q h1 h2 => (e q h1 h2).mono hP) (fun q h1 h2 => hP.2 _ _ (f q h1 h2))
  | two1 h => exact .two1 h
  | two2 h a => exact .two2 h (a.mono hP)
  | cal1 h => exact .cal1 h
  | cal2 h a b => exact .cal2 h (a.mono hP) (hP.1 _ _ _ b)
  | per1 h => exact .per1 h
/-- the checking goes on, without a fault -/
def CI (A : Nat → Nat → Int32) (tk gv : Nat → Nat) (N : Nat) (root : Nat) (σ : mSt) (c T : Nat) : Prop := (TOk σ T) ∧ (∀ k, 5 ≤ k → k ≤ 19 → σ.2.2.1 k = A k) ∧ ((σ.1 31).toInt = c) ∧ (∀ i, i < c → 0 ≤ (σ.2.2.1 26 i).toInt ∧ (σ.2.2.1 26 i).toInt < N) ∧ (∀ i, i < c → 0 ≤ (σ.2.2.1 27 i).toInt ∧ (σ.2.2.1 27 i).toInt ≤ (parts A (en σ i)).length) ∧ (∀ i, i < c → (A 13 (en σ i)).toInt + i ≤ 40) ∧ (∀ i, i < c → (A 12 (en σ i)).toInt.toNat ≤ 400) ∧ (∀ i, i < c → 0 ≤ (σ.2.2.1 28 i).toInt) ∧ (∀ i, i < c → ∀ k, k < 10 → -1 ≤ (σ.2.2.1 30 (10 * i + k)).toInt ∧ (σ.2.2.1 30 (10 * i + k)).toInt < T) ∧ (∀ i, i + 1 < c → Wj A (facts σ T) tk gv T (row σ i) (en σ i) (es σ i) (ec σ i) (row σ (i + 1)) (en σ (i + 1))) ∧ (0 < c → en σ 0 = root ∧ row σ 0 = fun _ => -1) ∧ (∀ i, i + 1 = c → es σ i = 0 ∨ ∃ g m t, Wj A (facts σ T) tk gv T (row σ i) (en σ i) (es σ i) (ec σ i) g m ∧ Ty A (facts σ T) tk gv g m t ∧ (σ.1 32).toInt = t ∧ t < T) ∧ (c = 0 → ∃ t, Ty A (facts σ T) tk gv (fun _ => -1) root t ∧ (σ.1 32).toInt = t ∧ t < T) ∧ (T + sumTo (fun i => pot A (en σ i) (es σ i)) c ≤ 463)
theorem CI.tok {A : Nat → Nat → Int32} {tk gv : Nat → Nat} {N : Nat} {root : Nat} {σ : mSt} {c T : Nat} (self : CI A tk gv N root σ c T) : TOk σ T := self.1
theorem CI.arr {A : Nat → Nat → Int32} {tk gv : Nat → Nat} {N : Nat} {root : Nat} {σ : mSt} {c T : Nat} (self : CI A tk gv N root σ c T) : ∀ k, 5 ≤ k → k ≤ 19 → σ.2.2.1 k = A k := self.2.1
theorem CI.c31 {A : Nat → Nat → Int32} {tk gv : Nat → Nat} {N : Nat} {root : Nat} {σ : mSt} {c T : Nat} (self : CI A tk gv N root σ c T) : (σ.1 31).toInt = c := self.2.2.1
theorem CI.nd {A : Nat → Nat → Int32} {tk gv : Nat → Nat} {N : Nat} {root : Nat} {σ : mSt} {c T : Nat} (self : CI A tk gv N root σ c T) : ∀ i, i < c → 0 ≤ (σ.2.2.1 26 i).toInt ∧ (σ.2.2.1 26 i).toInt < N := self.2.2.2.1
theorem CI.st {A : Nat → Nat → Int32} {tk gv : Nat → Nat} {N : Nat} {root : Nat} {σ : mSt} {c T : Nat} (self : CI A tk gv N root σ c T) : ∀ i, i < c → 0 ≤ (σ.2.2.1 27 i).toInt ∧ (σ.2.2.1 27 i).toInt ≤ (parts A (en σ i)).length := self.2.2.2.2.1
theorem CI.dp {A : Nat → Nat → Int32} {tk gv : Nat → Nat} {N : Nat} {root : Nat} {σ : mSt} {c T : Nat} (self : CI A tk gv N root σ c T) : ∀ i, i < c → (A 13 (en σ i)).toInt + i ≤ 40 := self.2.2.2.2.2.1
theorem CI.sz {A : Nat → Nat → Int32} {tk gv : Nat → Nat} {N : Nat} {root : Nat} {σ : mSt} {c T : Nat} (self : CI A tk gv N root σ c T) : ∀ i, i < c → (A 12 (en σ i)).toInt.toNat ≤ 400 := self.2.2.2.2.2.2.1
theorem CI.ct {A : Nat → Nat → Int32} {tk gv : Nat → Nat} {N : Nat} {root : Nat} {σ : mSt} {c T : Nat} (self : CI A tk gv N root σ c T) : ∀ i, i < c → 0 ≤ (σ.2.2.1 28 i).toInt := self.2.2.2.2.2.2.2.1
theorem CI.rows {A : Nat → Nat → Int32} {tk gv : Nat → Nat} {N : Nat} {root : Nat} {σ : mSt} {c T : Nat} (self : CI A tk gv N root σ c T) : ∀ i, i < c → ∀ k, k < 10 → -1 ≤ (σ.2.2.1 30 (10 * i + k)).toInt ∧ (σ.2.2.1 30 (10 * i + k)).toInt < T := self.2.2.2.2.2.2.2.2.1
theorem CI.wait {A : Nat → Nat → Int32} {tk gv : Nat → Nat} {N : Nat} {root : Nat} {σ : mSt} {c T : Nat} (self : CI A tk gv N root σ c T) : ∀ i, i + 1 < c → Wj A (facts σ T) tk gv T (row σ i) (en σ i) (es σ i) (ec σ i) (row σ (i + 1)) (en σ (i + 1)) := self.2.2.2.2.2.2.2.2.2.1
theorem CI.root0 {A : Nat → Nat → Int32} {tk gv : Nat → Nat} {N : Nat} {root : Nat} {σ : mSt} {c T : Nat} (self : CI A tk gv N root σ c T) : 0 < c → en σ 0 = root ∧ row σ 0 = fun _ => -1 := self.2.2.2.2.2.2.2.2.2.2.1
theorem CI.top {A : Nat → Nat → Int32} {tk gv : Nat → Nat} {N : Nat} {root : Nat} {σ : mSt} {c T : Nat} (self : CI A tk gv N root σ c T) : ∀ i, i + 1 = c → es σ i = 0 ∨ ∃ g m t, Wj A (facts σ T) tk gv T (row σ i) (en σ i) (es σ i) (ec σ i) g m ∧ Ty A (facts σ T) tk gv g m t ∧ (σ.1 32).toInt = t ∧ t < T := self.2.2.2.2.2.2.2.2.2.2.2.1
theorem CI.done {A : Nat → Nat → Int32} {tk gv : Nat → Nat} {N : Nat} {root : Nat} {σ : mSt} {c T : Nat} (self : CI A tk gv N root σ c T) : c = 0 → ∃ t, Ty A (facts σ T) tk gv (fun _ => -1) root t ∧ (σ.1 32).toInt = t ∧ t < T := self.2.2.2.2.2.2.2.2.2.2.2.2.1
theorem CI.po {A : Nat → Nat → Int32} {tk gv : Nat → Nat} {N : Nat} {root : Nat} {σ : mSt} {c T : Nat} (self : CI A tk gv N root σ c T) : T + sumTo (fun i => pot A (en σ i) (es σ i)) c ≤ 463 := self.2.2.2.2.2.2.2.2.2.2.2.2.2
def mu (A : Nat → Nat → Int32) (σ : mSt) (c : Nat) : Nat := sumTo (fun i => 1 + 2 * unv A (en σ i) (es σ i)) c
theorem row_congr {σ σ' : mSt} {i : Nat} (h : ∀ k, k < 10 → σ'.2.2.1 30 (10 * i + k) = σ.2.2.1 30 (10 * i + k)) : row σ' i = row σ i := by
  funext k; unfold row; split
  · rename_i hk; rw [h k hk]
  · rfl
/-- the nodes' arrays in order -/
def TabOk (A : Nat → Nat → Int32) (N : Nat) : Prop := (∀ n, n < N → ∀ p, p ∈ parts A n → p < n ∧ (A 13 p).toInt < (A 13 n).toInt) ∧ (∀ n, n < N → 1 ≤ (A 12 n).toInt.toNat) ∧ (∀ n, n < N → (A 12 n).toInt.toNat ≤ 400 → 1 + ssum A (parts A n) ≤ (A 12 n).toInt.toNat) ∧ (∀ n, n < N → 1 ≤ (A 13 n).toInt)
theorem TabOk.part {A : Nat → Nat → Int32} {N : Nat} (self : TabOk A N) : ∀ n, n < N → ∀ p, p ∈ parts A n → p < n ∧ (A 13 p).toInt < (A 13 n).toInt := self.1
theorem TabOk.s1 {A : Nat → Nat → Int32} {N : Nat} (self : TabOk A N) : ∀ n, n < N → 1 ≤ (A 12 n).toInt.toNat := self.2.1
theorem TabOk.sum {A : Nat → Nat → Int32} {N : Nat} (self : TabOk A N) : ∀ n, n < N → (A 12 n).toInt.toNat ≤ 400 → 1 + ssum A (parts A n) ≤ (A 12 n).toInt.toNat := self.2.2.1
theorem TabOk.dp {A : Nat → Nat → Int32} {N : Nat} (self : TabOk A N) : ∀ n, n < N → 1 ≤ (A 13 n).toInt := self.2.2.2
theorem TabOk.of {σ : mSt} {N C R T : Nat} (h : NOk σ N C R T) : TabOk σ.2.2.1 N := by
  refine ⟨fun n hn p hp => (h.nd n hn).part hp, fun n hn => ?_, fun n hn hs => ?_, fun n hn => (h.nd n hn).dp.1⟩
  · have := (h.nd n hn).s1; unfold Sz at this; omega
  · have s1 := (h.nd n hn).s1
    have := (h.nd n hn).sum (fun p hp => (h.nd p (by omega)).s1.1) (by unfold Sz at *; omega)
    unfold Sz at *
    omega
theorem psum_le {A : Nat → Nat → Int32} : ∀ {l : List Nat}, psum A l ≤ ssum A l
  | [] => Nat.le_refl _
  | p :: l => by have := psum_le (A := A) (l := l); simp only [psum, ssum]; omega
theorem psum_eq {A : Nat → Nat → Int32} : ∀ {l : List Nat}, (∀ p, p ∈ l → 1 ≤ (A 12 p).toInt.toNat) → psum A l + l.length = ssum A l
  | [], _ => rfl
  | p :: l, h => by
    have := psum_eq (A := A) (l := l) (fun q hq => h q (List.mem_cons_of_mem _ hq))
    have h1 := h p List.mem_cons_self
    simp only [psum, ssum, List.length_cons]; omega
theorem ssum_mem {A : Nat → Nat → Int32} : ∀ {l : List Nat} {p : Nat}, p ∈ l → (A 12 p).toInt.toNat ≤ ssum A l
  | q :: l, p, h => by
    rcases List.mem_cons.mp h with rfl | h
    · simp only [ssum]; omega
    · have := ssum_mem (A := A) h; simp only [ssum]; omega
theorem pot_new {A : Nat → Nat → Int32} {N : Nat} (hA : TabOk A N) {m : Nat} (hm : m < N) (hs : (A 12 m).toInt.toNat ≤ 400) : pot A m 0 + 1 ≤ (A 12 m).toInt.toNat ∧ unv A m 0 + 1 ≤ (A 12 m).toInt.toNat := by
  have h1 := hA.sum m hm hs
  have h2 := psum_eq (A := A) (l := parts A m) (fun p hp => hA.s1 p (by have := (hA.part m hm p hp).1; omega))
  unfold pot unv
  rw [List.drop_zero]
  refine ⟨?_, by omega⟩
  split
  · rename_i h7
    have : (parts A m).length = 1 := by unfold parts; rw [if_neg (by omega), if_pos (Or.inl h7)]; rfl
    omega
  · split
    · omega
    · omega
theorem drop_at {l : List Nat} {s m : Nat} (h : l[s]? = some m) : l.drop s = m :: l.drop (s + 1) := by
  obtain ⟨h1, h2⟩ := List.getElem?_eq_some_iff.mp h
  rw [List.drop_eq_getElem_cons h1, h2]
theorem CI.enter {A : Nat → Nat → Int32} {tk gv : Nat → Nat} {N root c T T' m : Nat} {σ σ' : mSt} (hA : TabOk A N) (h : CI A tk gv N root σ (c + 1) T) (tok' : TOk σ' T') (hT : T ≤ T') (hP : (facts σ T).le (facts σ' T'))
    (arr' : ∀ k, 5 ≤ k → k ≤ 19 → σ'.2.2.1 k = A k) (c31' : (σ'.1 31).toInt = c + 2) (e26 : ∀ i, i < c + 1 → σ'.2.2.1 26 i = σ.2.2.1 26 i) (e27 : ∀ i, i < c → σ'.2.2.1 27 i = σ.2.2.1 27 i) (e28 : ∀ i, i < c → σ'.2.2.1 28 i = σ.2.2.1 28 i) (e30 : ∀ i, i < 10 * (c + 1) → σ'.2.2.1 30 i = σ.2.2.1 30 i)
    (s' : (σ'.2.2.1 27 c).toInt = es σ c + 1) (ct' : 0 ≤ (σ'.2.2.1 28 c).toInt) (m' : (σ'.2.2.1 26 (c + 1)).toInt = m) (hm : (parts A (en σ c))[es σ c]? = some m) (s0 : (σ'.2.2.1 27 (c + 1)).toInt = 0) (c0 : 0 ≤ (σ'.2.2.1 28 (c + 1)).toInt)
    (rowv : ∀ k, k < 10 → -1 ≤ (σ'.2.2.1 30 (10 * (c + 1) + k)).toInt ∧ (σ'.2.2.1 30 (10 * (c + 1) + k)).toInt < T') (w : Wj A (facts σ' T') tk gv T' (row σ c) (en σ c) (es σ c + 1) (ec σ' c) (row σ' (c + 1)) m)
    (hp : T' ≤ T ∨ (T' ≤ T + 1 ∧ (A 5 (en σ c)).toInt = 8 ∧ 2 ≤ es σ c)) : CI A tk gv N root σ' (c + 2) T' ∧ mu A σ' (c + 2) < mu A σ (c + 1) := by
  have een : ∀ i, i < c + 1 → en σ' i = en σ i := fun i hi => by unfold en; rw [e26 i hi]
  have ees : ∀ i, i < c → es σ' i = es σ i := fun i hi => by unfold es; rw [e27 i hi]
  have eec : ∀ i, i < c → ec σ' i = ec σ i := fun i hi => by unfold ec; rw [e28 i hi]
  have erow : ∀ i, i < c + 1 → row σ' i = row σ i := fun i hi => row_congr (fun k hk => e30 _ (by omega))
  have en1 : en σ' (c + 1) = m := by unfold en; omega
  have es1 : es σ' (c + 1) = 0 := by unfold es; omega
  have esc : es σ' c = es σ c + 1 := by
    show (σ'.2.2.1 27 c).toInt.toNat = _
    omega
  have hnd := h.nd c (by omega)
  have hcN : en σ c < N := by unfold en; omega
  have hmem : m ∈ parts A (en σ c) := List.mem_of_getElem? hm
  have hpt := hA.part _ hcN m hmem
  have hsum := hA.sum _ hcN (h.sz c (by omega))
  have hsm := ssum_mem (A := A) hmem
  have hszm : (A 12 m).toInt.toNat ≤ 400 := by have := h.sz c (by omega); omega
  have hpn := pot_new hA (m := m) (by omega) hszm
  have hdr := drop_at hm
  have hu : unv A (en σ c) (es σ c) = (A 12 m).toInt.toNat + unv A (en σ c) (es σ c + 1) := by unfold unv; rw [hdr]; rfl
  have hlen : es σ c < (parts A (en σ c)).length := (List.getElem?_eq_some_iff.mp hm).1
  have hs1m := hA.s1 m (by omega)
  have hpo : (T' - T) + pot A (en σ c) (es σ c + 1) + ((A 12 m).toInt.toNat - 1) ≤ pot A (en σ c) (es σ c) := by
    unfold pot
    rw [hdr]
    simp only [psum]
    split
    · rename_i h7; rcases hp with hp | ⟨_, h8, _⟩ <;> omega
    · split
      · omega
      · rename_i h8; rcases hp with hp | ⟨_, h8', _⟩ <;> omega
  constructor
  · refine ⟨tok', arr', by omega, fun i hi => ?_, fun i hi => ?_, fun i hi => ?_, fun i hi => ?_, fun i hi => ?_, fun i hi k hk => ?_, fun i hi => ?_, fun hc => by rw [een 0 (by omega), erow 0 (by omega)]; exact h.root0 (by omega), fun i hi => ?_, fun hc => by omega, ?_⟩
    · by_cases hic : i = c + 1
      · subst hic; omega
      · rw [e26 i (by omega)]; exact h.nd i (by omega)
    · by_cases hic : i = c + 1
      · subst hic; omega
      · by_cases hic2 : i = c
        · subst hic2; rw [een i (by omega)]; omega
        · rw [e27 i (by omega), een i (by omega)]; exact h.st i (by omega)
    · by_cases hic : i = c + 1
      · subst hic; rw [en1]; have := h.dp c (by omega); omega
      · rw [een i (by omega)]; exact h.dp i (by omega)
    · by_cases hic : i = c + 1
      · subst hic; rw [en1]; exact hszm
      · rw [een i (by omega)]; exact h.sz i (by omega)
    · by_cases hic : i = c + 1
      · subst hic; exact c0
      · by_cases hic2 : i = c
        · subst hic2; exact ct'
        · rw [e28 i (by omega)]; exact h.ct i (by omega)
    · by_cases hic : i = c + 1
      · subst hic; exact rowv k hk
      · rw [e30 _ (by omega)]; have := h.rows i (by omega) k hk; omega
    · by_cases hic : i = c
      · subst hic
        rw [erow i (by omega), een i (by omega), esc, en1]; exact w
      · rw [erow i (by omega), een i (by omega), ees i (by omega), eec i (by omega), erow (i + 1) (by omega), een (i + 1) (by omega)]
        exact (h.wait i (by omega)).mono hT hP
    · left
      have : i = c + 1 := by omega
      subst this; exact es1
    · have hh := h.po
      simp only [sumTo] at hh ⊢
      rw [sumTo_congr (g := fun i => pot A (en σ i) (es σ i)) (fun i hi => by rw [een i (by omega), ees i hi]), een c (by omega), esc, en1, es1]
      omega
  · unfold mu
    simp only [sumTo]
    rw [sumTo_congr (g := fun i => 1 + 2 * unv A (en σ i) (es σ i)) (fun i hi => by rw [een i (by omega), ees i hi]), een c (by omega), esc, en1, es1]
    omega
theorem CI.leave {A : Nat → Nat → Int32} {tk gv : Nat → Nat} {N root c T T' t : Nat} {σ σ' : mSt} (h : CI A tk gv N root σ (c + 1) T) (tok' : TOk σ' T') (hT : T ≤ T') (hP : (facts σ T).le (facts σ' T'))
    (arr' : ∀ k, 5 ≤ k → k ≤ 19 → σ'.2.2.1 k = A k) (c31' : (σ'.1 31).toInt = c) (e26 : ∀ i, i < c → σ'.2.2.1 26 i = σ.2.2.1 26 i) (e27 : ∀ i, i < c → σ'.2.2.1 27 i = σ.2.2.1 27 i) (e28 : ∀ i, i < c → σ'.2.2.1 28 i = σ.2.2.1 28 i) (e30 : ∀ i, i < 10 * c → σ'.2.2.1 30 i = σ.2.2.1 30 i)
    (ty : Ty A (facts σ' T') tk gv (row σ c) (en σ c) t) (ft : (σ'.1 32).toInt = t) (ht : t < T') (hp : T' ≤ T + pot A (en σ c) (es σ c)) : CI A tk gv N root σ' c T' ∧ mu A σ' c < mu A σ (c + 1) := by
  have een : ∀ i, i < c → en σ' i = en σ i := fun i hi => by unfold en; rw [e26 i hi]
  have ees : ∀ i, i < c → es σ' i = es σ i := fun i hi => by unfold es; rw [e27 i hi]
  have eec : ∀ i, i < c → ec σ' i = ec σ i := fun i hi => by unfold ec; rw [e28 i hi]
  have erow : ∀ i, i < c → row σ' i = row σ i := fun i hi => row_congr (fun k hk => e30 _ (by omega))
  constructor
  · refine ⟨tok', arr', c31', fun i hi => by rw [e26 i hi]; exact h.nd i (by omega), fun i hi => by rw [e27 i hi, een i hi]; exact h.st i (by omega), fun i hi => by rw [een i hi]; exact h.dp i (by omega), fun i hi => by rw [een i hi]; exact h.sz i (by omega), fun i hi => by rw [e28 i hi]; exact h.ct i (by omega), fun i hi k hk => by rw [e30 _ (by omega)]; have := h.rows i (by omega) k hk; omega, fun i hi => ?_, fun hc => by rw [een 0 hc, erow 0 hc]; exact h.root0 (by omega), fun i hi => ?_, fun hc => ?_, ?_⟩
    · rw [erow i (by omega), een i (by omega), ees i (by omega), eec i (by omega), erow (i + 1) hi, een (i + 1) hi]
      exact (h.wait i (by omega)).mono hT hP
    · right
      rw [erow i (by omega), een i (by omega), ees i (by omega), eec i (by omega)]
      refine ⟨row σ c, en σ c, t, ?_, ty, ft, ht⟩
      have := (h.wait i (by omega)).mono hT hP
      rw [hi] at this
      exact this
    · subst hc
      have := h.root0 (by omega)
      rw [this.1, this.2] at ty
      exact ⟨t, ty, ft, ht⟩
    · have hh := h.po
      simp only [sumTo] at hh
      rw [sumTo_congr (g := fun i => pot A (en σ i) (es σ i)) (fun i hi => by rw [een i hi, ees i hi])]
      omega
  · unfold mu
    simp only [sumTo]
    rw [sumTo_congr (g := fun i => 1 + 2 * unv A (en σ i) (es σ i)) (fun i hi => by rw [een i hi, ees i hi])]
    omega
end
