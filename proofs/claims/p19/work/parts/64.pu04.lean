-- pure rows: T U V X Y Z AA
section
/-- what the checking leaves as it was -/
def CkFr (T : Nat) (σ σ' : mSt) : Prop := (σ'.2.1 = σ.2.1) ∧ (σ'.2.2.2 = σ.2.2.2) ∧ (∀ k, k ≠ 3 → k ≠ 4 → ¬ (31 ≤ k ∧ k ≤ 35) → σ'.1 k = σ.1 k) ∧ (∀ k, (k < 20 ∨ 23 < k) → ¬ (26 ≤ k ∧ k ≤ 30) → σ'.2.2.1 k = σ.2.2.1 k) ∧ (∀ i, i < T → σ'.2.2.1 20 i = σ.2.2.1 20 i) ∧ (∀ i, i < T → σ'.2.2.1 21 i = σ.2.2.1 21 i) ∧ (∀ i, i < T → σ'.2.2.1 22 i = σ.2.2.1 22 i) ∧ (∀ a b, a < T → b < T → σ'.2.2.1 23 (520 * a + b) = σ.2.2.1 23 (520 * a + b))
theorem CkFr.l {T : Nat} {σ σ' : mSt} (self : CkFr T σ σ') : σ'.2.1 = σ.2.1 := self.1
theorem CkFr.ll {T : Nat} {σ σ' : mSt} (self : CkFr T σ σ') : σ'.2.2.2 = σ.2.2.2 := self.2.1
theorem CkFr.f {T : Nat} {σ σ' : mSt} (self : CkFr T σ σ') : ∀ k, k ≠ 3 → k ≠ 4 → ¬ (31 ≤ k ∧ k ≤ 35) → σ'.1 k = σ.1 k := self.2.2.1
theorem CkFr.a {T : Nat} {σ σ' : mSt} (self : CkFr T σ σ') : ∀ k, (k < 20 ∨ 23 < k) → ¬ (26 ≤ k ∧ k ≤ 30) → σ'.2.2.1 k = σ.2.2.1 k := self.2.2.2.1
theorem CkFr.t20 {T : Nat} {σ σ' : mSt} (self : CkFr T σ σ') : ∀ i, i < T → σ'.2.2.1 20 i = σ.2.2.1 20 i := self.2.2.2.2.1
theorem CkFr.t21 {T : Nat} {σ σ' : mSt} (self : CkFr T σ σ') : ∀ i, i < T → σ'.2.2.1 21 i = σ.2.2.1 21 i := self.2.2.2.2.2.1
theorem CkFr.t22 {T : Nat} {σ σ' : mSt} (self : CkFr T σ σ') : ∀ i, i < T → σ'.2.2.1 22 i = σ.2.2.1 22 i := self.2.2.2.2.2.2.1
theorem CkFr.t23 {T : Nat} {σ σ' : mSt} (self : CkFr T σ σ') : ∀ a b, a < T → b < T → σ'.2.2.1 23 (520 * a + b) = σ.2.2.1 23 (520 * a + b) := self.2.2.2.2.2.2.2
theorem CkFr.trans {T T' : Nat} (hT : T ≤ T') {a b c : mSt} (h : CkFr T a b) (g : CkFr T' b c) : CkFr T a c :=
  ⟨g.l.trans h.l, g.ll.trans h.ll, fun k h1 h2 h3 => (g.f k h1 h2 h3).trans (h.f k h1 h2 h3), fun k h1 h2 => (g.a k h1 h2).trans (h.a k h1 h2), fun i hi => (g.t20 i (by omega)).trans (h.t20 i hi), fun i hi => (g.t21 i (by omega)).trans (h.t21 i hi), fun i hi => (g.t22 i (by omega)).trans (h.t22 i hi), fun i j hi hj => (g.t23 i j (by omega) (by omega)).trans (h.t23 i j hi hj)⟩
/-- the types are untouched: so it is a frame of any T -/
theorem CkFr.of {T : Nat} {σ σ' : mSt} (l : σ'.2.1 = σ.2.1) (ll : σ'.2.2.2 = σ.2.2.2) (f : ∀ k, ¬ (31 ≤ k ∧ k ≤ 35) → σ'.1 k = σ.1 k) (a : ∀ k, ¬ (26 ≤ k ∧ k ≤ 30) → σ'.2.2.1 k = σ.2.2.1 k) : CkFr T σ σ' :=
  ⟨l, ll, fun k _ _ h => f k h, fun k _ h => a k h, fun i _ => by rw [a 20 (by omega)], fun i _ => by rw [a 21 (by omega)], fun i _ => by rw [a 22 (by omega)], fun i j _ _ => by rw [a 23 (by omega)]⟩
theorem CkFr.ofT {T : Nat} {σ σ' : mSt} (h : TFr T σ σ') : CkFr T σ σ' :=
  ⟨h.l, h.ll, fun k h1 h2 _ => h.f k h1 h2, fun k h1 _ => h.a k h1, h.t20, h.t21, h.t22, h.t23⟩
theorem CkFr.facts {T T' : Nat} {σ σ' : mSt} (h : CkFr T σ σ') (hT : T ≤ T') : (facts σ T).le (facts σ' T') := by
  refine ⟨fun r a b ⟨h1, h2, h3, h4⟩ => ⟨h1, by omega, ?_, ?_⟩, fun t u ⟨h1, h2, h3⟩ => ⟨by omega, by omega, ?_⟩⟩
  · unfold Ta at *; rw [h.t20 r h2]; exact h3
  · unfold Tr at *; rw [h.t21 r h2]; exact h4
  · unfold Fit at *; rw [h.t23 t u h1 h2]; exact h3
/-- the types that were are in order, whatever came of it -/
theorem CkFr.back {T T' : Nat} {σ σ' : mSt} (h : CkFr T σ σ') (hT : T ≤ T') (h0 : TOk σ T) (h1 : TOk σ' T') {x : Int32} (hx : x.toInt = T) : TOk (mo_si σ' 3 x) T := by
  refine ⟨by simp [si_1, si_2, sl_1, sl_2, sl_3, ai_1, ai_2, ai_3, ai_4, al_1, al_2, al_3, al_4, hx], h0.lo, h0.hi, fun a ha hb => h1.tb a ha (by omega), h1.bits, fun a b ha hb => h1.fit a b (by omega) (by omega)⟩
/-- in a step: the top entry's stage has been raised -/
def Mid (A : Nat → Nat → Int32) (σ σ' : mSt) (c T T' : Nat) : Prop := (CkFr T σ σ') ∧ (TOk σ' T') ∧ (T ≤ T') ∧ ((σ'.1 31).toInt = c + 1) ∧ (σ'.2.2.1 26 = σ.2.2.1 26) ∧ (∀ i, i < c → σ'.2.2.1 27 i = σ.2.2.1 27 i) ∧ (∀ i, i < c → σ'.2.2.1 28 i = σ.2.2.1 28 i) ∧ (σ'.2.2.1 30 = σ.2.2.1 30) ∧ ((σ'.2.2.1 27 c).toInt = es σ c + 1) ∧ (0 ≤ (σ'.2.2.1 28 c).toInt)
theorem Mid.fr {A : Nat → Nat → Int32} {σ σ' : mSt} {c T T' : Nat} (self : Mid A σ σ' c T T') : CkFr T σ σ' := self.1
theorem Mid.tok {A : Nat → Nat → Int32} {σ σ' : mSt} {c T T' : Nat} (self : Mid A σ σ' c T T') : TOk σ' T' := self.2.1
theorem Mid.hT {A : Nat → Nat → Int32} {σ σ' : mSt} {c T T' : Nat} (self : Mid A σ σ' c T T') : T ≤ T' := self.2.2.1
theorem Mid.c31 {A : Nat → Nat → Int32} {σ σ' : mSt} {c T T' : Nat} (self : Mid A σ σ' c T T') : (σ'.1 31).toInt = c + 1 := self.2.2.2.1
theorem Mid.e26 {A : Nat → Nat → Int32} {σ σ' : mSt} {c T T' : Nat} (self : Mid A σ σ' c T T') : σ'.2.2.1 26 = σ.2.2.1 26 := self.2.2.2.2.1
theorem Mid.e27 {A : Nat → Nat → Int32} {σ σ' : mSt} {c T T' : Nat} (self : Mid A σ σ' c T T') : ∀ i, i < c → σ'.2.2.1 27 i = σ.2.2.1 27 i := self.2.2.2.2.2.1
theorem Mid.e28 {A : Nat → Nat → Int32} {σ σ' : mSt} {c T T' : Nat} (self : Mid A σ σ' c T T') : ∀ i, i < c → σ'.2.2.1 28 i = σ.2.2.1 28 i := self.2.2.2.2.2.2.1
theorem Mid.e30 {A : Nat → Nat → Int32} {σ σ' : mSt} {c T T' : Nat} (self : Mid A σ σ' c T T') : σ'.2.2.1 30 = σ.2.2.1 30 := self.2.2.2.2.2.2.2.1
theorem Mid.s {A : Nat → Nat → Int32} {σ σ' : mSt} {c T T' : Nat} (self : Mid A σ σ' c T T') : (σ'.2.2.1 27 c).toInt = es σ c + 1 := self.2.2.2.2.2.2.2.2.1
theorem Mid.ct {A : Nat → Nat → Int32} {σ σ' : mSt} {c T T' : Nat} (self : Mid A σ σ' c T T') : 0 ≤ (σ'.2.2.1 28 c).toInt := self.2.2.2.2.2.2.2.2.2
theorem Mid.go {A : Nat → Nat → Int32} {tk gv : Nat → Nat} {N root c T T' m : Nat} {σ σ2 σi σ' : mSt} {x : Int32} (hA : TabOk A N) (h : CI A tk gv N root σ (c + 1) T) (md : Mid A σ σ2 c T T') (ip : IntoP (c + 1) x σ2 σi) (rf : RowFr (c + 1) σi σ') (hx : x.toInt = m) (hm : (parts A (en σ c))[es σ c]? = some m)
    (rowv : ∀ k, k < 10 → -1 ≤ (σ'.2.2.1 30 (10 * (c + 1) + k)).toInt ∧ (σ'.2.2.1 30 (10 * (c + 1) + k)).toInt < T') (w : Wj A (facts σ' T') tk gv T' (row σ c) (en σ c) (es σ c + 1) (ec σ2 c) (row σ' (c + 1)) m)
    (hp : T' ≤ T ∨ (T' ≤ T + 1 ∧ (A 5 (en σ c)).toInt = 8 ∧ 2 ≤ es σ c)) : CI A tk gv N root σ' (c + 2) T' ∧ mu A σ' (c + 2) < mu A σ (c + 1) ∧ CkFr T σ σ' := by
  have fr2 : CkFr T' σ2 σ' := CkFr.of (by rw [rf.l, ip.l]) (by rw [rf.ll, ip.ll]) (fun k hk => by rw [rf.f, ip.f k (by omega)]) (fun k hk => by funext i; rw [rf.a k i (by omega), ip.a k (by omega)])
  have fr := md.fr.trans md.hT fr2
  have tok' : TOk σ' T' := md.tok.congr (fr2.f 3 |> fun _ => by rw [rf.f, ip.f 3 (by decide)]) (fun k h1 h2 => by funext i; rw [rf.a k i (by omega), ip.a k (by omega)])
  have r := CI.enter hA h tok' md.hT (fr.facts md.hT) (fun k h1 h2 => by rw [fr.a k (by omega) (by omega)]; exact h.arr k h1 h2) (by rw [rf.f, ip.f31]; omega) (fun i hi => by rw [rf.a 26 i (by omega), ip.lo 26 i (by omega) (by omega) (by omega), md.e26]) (fun i hi => by rw [rf.a 27 i (by omega), ip.lo 27 i (by omega) (by omega) (by omega), md.e27 i hi]) (fun i hi => by rw [rf.a 28 i (by omega), ip.lo 28 i (by omega) (by omega) (by omega), md.e28 i hi]) (fun i hi => by rw [rf.a 30 i (by omega), ip.row i hi, md.e30])
    (by rw [rf.a 27 c (by omega), ip.lo 27 c (by omega) (by omega) (by omega)]; exact md.s) (by rw [rf.a 28 c (by omega), ip.lo 28 c (by omega) (by omega) (by omega)]; exact md.ct) (by rw [rf.a 26 _ (by omega), ip.nd]; exact hx) hm (by rw [rf.a 27 _ (by omega), ip.st]; rfl) (by rw [rf.a 28 _ (by omega), ip.ty]; decide) rowv (by
      have : ec σ' c = ec σ2 c := by unfold ec; rw [rf.a 28 c (by omega), ip.lo 28 c (by omega) (by omega) (by omega)]
      rw [this]; exact w) hp
  exact ⟨r.1, r.2, fr⟩
theorem row_into {c : Nat} {x : Int32} {σ σ' : mSt} (h : IntoP (c + 1) x σ σ') : row σ' (c + 1) = row σ c := by
  funext k; unfold row; split
  · rename_i hk; rw [h.new k hk, if_neg (by omega)]; rfl
  · rfl
theorem row_env {c y : Nat} {t : Int32} {σ : mSt} (hy : y < 10) : row (mo_ai σ 30 (10 * c + y) t) c = env (row σ c) y t.toInt := by
  funext k
  by_cases hk : k < 10
  · by_cases hky : k = y
    · subst hky; simp [si_1, si_2, sl_1, sl_2, sl_3, ai_1, ai_2, ai_3, ai_4, al_1, al_2, al_3, al_4, row, env, hk]
    · have : ¬ (10 * c + k = 10 * c + y) := by omega
      simp [si_1, si_2, sl_1, sl_2, sl_3, ai_1, ai_2, ai_3, ai_4, al_1, al_2, al_3, al_4, row, env, hk, hky]
  · have : k ≠ y := by omega
    simp [si_1, si_2, sl_1, sl_2, sl_3, ai_1, ai_2, ai_3, ai_4, al_1, al_2, al_3, al_4, row, env, hk, this]
theorem RowFr.rfl' {c : Nat} {σ : mSt} : RowFr c σ σ := ⟨rfl, rfl, rfl, fun _ _ _ => rfl⟩
theorem RowFr.ai {c y : Nat} {t : Int32} {σ : mSt} (hy : y < 10) : RowFr c σ (mo_ai σ 30 (10 * c + y) t) :=
  ⟨rfl, rfl, rfl, fun k i hk => by rw [ai_3, if_neg (by omega)]⟩
theorem rowv_of {c T : Nat} {σ : mSt} : (∀ k, k < 10 → -1 ≤ (σ.2.2.1 30 (10 * c + k)).toInt ∧ (σ.2.2.1 30 (10 * c + k)).toInt < T) ↔ ∀ k, k < 10 → -1 ≤ row σ c k ∧ row σ c k < T := by
  constructor
  · intro h k hk; unfold row; rw [if_pos hk]; exact h k hk
  · intro h k hk; have := h k hk; unfold row at this; rw [if_pos hk] at this; exact this
theorem env_v {g : Nat → Int} {y T : Nat} {t : Int} (h : ∀ k, k < 10 → -1 ≤ g k ∧ g k < T) (ht : -1 ≤ t ∧ t < T) : ∀ k, k < 10 → -1 ≤ env g y t k ∧ env g y t k < T := by
  intro k hk; unfold env; split
  · exact ht
  · exact h k hk
end
section
/-- a step of the checking is in order -/
def StepOk (A : Nat → Nat → Int32) (tk gv : Nat → Nat) (N root : Nat) (σ : mSt) (c T : Nat) (σ' : mSt) : Prop :=
  ∃ T', TOk σ' T' ∧ T ≤ T' ∧ CkFr T σ σ' ∧ (σ'.1 34 = 0 → ∃ c', CI A tk gv N root σ' c' T' ∧ mu A σ' c' < mu A σ c)
theorem wrong_ok {σ : mSt} {x y : Int32} (hx : x ≠ 0) : S_Mo_wrong σ x y ∧ (F_Mo_wrong σ x y).1 34 ≠ 0 ∧ (∀ k, k ≠ 34 → k ≠ 35 → (F_Mo_wrong σ x y).1 k = σ.1 k) ∧ (F_Mo_wrong σ x y).2 = σ.2 := by
  unfold S_Mo_wrong F_Mo_wrong
  split
  · simp only [si_1, si_2]
    exact ⟨trivial, by simpa [si_1, si_2, sl_1, sl_2, sl_3, ai_1, ai_2, ai_3, ai_4, al_1, al_2, al_3, al_4] using hx, fun k h1 h2 => by simp [si_1, si_2, sl_1, sl_2, sl_3, ai_1, ai_2, ai_3, ai_4, al_1, al_2, al_3, al_4, h1, h2], trivial⟩
  · rename_i h
    exact ⟨trivial, h, fun _ _ _ => rfl, rfl⟩
theorem Mid.wrong {A : Nat → Nat → Int32} {σ σ2 : mSt} {c T T' : Nat} {x y : Int32} (h : Mid A σ σ2 c T T') (hx : x ≠ 0) : Mid A σ (F_Mo_wrong σ2 x y) c T T' ∧ (F_Mo_wrong σ2 x y).1 34 ≠ 0 := by
  obtain ⟨_, w2, w3, w4⟩ := wrong_ok (σ := σ2) (x := x) (y := y) hx
  refine ⟨⟨h.fr.trans h.hT (CkFr.of (by rw [w4]) (by rw [w4]) (fun k hk => w3 k (by omega) (by omega)) (fun k _ => by rw [w4])), h.tok.congr (w3 3 (by decide) (by decide)) (fun k _ _ => by rw [w4]), h.hT, ?_, ?_, ?_, ?_, ?_, ?_, ?_⟩, w2⟩
  · rw [w3 31 (by decide) (by decide)]; exact h.c31
  · rw [w4]; exact h.e26
  · rw [w4]; exact h.e27
  · rw [w4]; exact h.e28
  · rw [w4]; exact h.e30
  · rw [w4]; exact h.s
  · rw [w4]; exact h.ct
/-- the stage is raised -/
theorem Mid.start {A : Nat → Nat → Int32} {tk gv : Nat → Nat} {N root c T : Nat} {σ : mSt} (h : CI A tk gv N root σ (c + 1) T) (hlen : ∀ n, (parts A n).length ≤ 1000) : Mid A σ (mo_ai σ 27 c (σ.2.2.1 27 c + 1)) c T T := by
  have hs := h.st c (by omega)
  have hl := hlen (en σ c)
  refine ⟨CkFr.of rfl rfl (fun _ _ => rfl) (fun k hk => by funext i; rw [ai_3, if_neg (by omega)]), h.tok.congr rfl (fun k h1 h2 => by funext i; rw [ai_3, if_neg (by omega)]), Nat.le_refl _, h.c31, by funext i; simp [si_1, si_2, sl_1, sl_2, sl_3, ai_1, ai_2, ai_3, ai_4, al_1, al_2, al_3, al_4], fun i hi => by rw [ai_3, if_neg (by omega)], fun i hi => by simp [si_1, si_2, sl_1, sl_2, sl_3, ai_1, ai_2, ai_3, ai_4, al_1, al_2, al_3, al_4], by funext i; simp [si_1, si_2, sl_1, sl_2, sl_3, ai_1, ai_2, ai_3, ai_4, al_1, al_2, al_3, al_4], ?_, ?_⟩
  · rw [ai_3, if_pos ⟨rfl, rfl⟩]; unfold es; ((try (simp only [vp_in, Int32.toNatClampNeg, Int32.lt_iff_toInt_lt, Int32.le_iff_toInt_le, ← Int32.toInt_inj, Int32.toInt_add, Int32.toInt_sub, Int32.toInt_mul, Int32.reduceToInt, i32_neg1, Nat.reducePow, Int.reducePow, ne_eq, ge_iff_le, gt_iff_lt] at *)) <;> (first | omega | ((simp (disch := omega) only [bm32] at *) <;> omega)))
  · rw [ai_3, if_neg (by omega)]; exact h.ct c (by omega)
/-- the top entry's type and row are set -/
theorem Mid.set28 {A : Nat → Nat → Int32} {σ σ2 : mSt} {c T T' : Nat} {x : Int32} (h : Mid A σ σ2 c T T') (hx : 0 ≤ x.toInt) : Mid A σ (mo_ai σ2 28 c x) c T T' := by
  refine ⟨h.fr.trans h.hT (CkFr.of rfl rfl (fun _ _ => rfl) (fun k hk => by funext i; rw [ai_3, if_neg (by omega)])), h.tok.congr rfl (fun k h1 h2 => by funext i; rw [ai_3, if_neg (by omega)]), h.hT, h.c31, ?_, fun i hi => ?_, fun i hi => ?_, ?_, ?_, ?_⟩
  · funext i; rw [ai_3, if_neg (by omega), h.e26]
  · rw [ai_3, if_neg (by omega)]; exact h.e27 i hi
  · rw [ai_3, if_neg (by omega)]; exact h.e28 i hi
  · funext i; rw [ai_3, if_neg (by omega), h.e30]
  · rw [ai_3, if_neg (by omega)]; exact h.s
  · rw [ai_3, if_pos ⟨rfl, rfl⟩]; exact hx
theorem Mid.set29 {A : Nat → Nat → Int32} {σ σ2 : mSt} {c T T' i : Nat} {x : Int32} (h : Mid A σ σ2 c T T') : Mid A σ (mo_ai σ2 29 i x) c T T' := by
  refine ⟨h.fr.trans h.hT (CkFr.of rfl rfl (fun _ _ => rfl) (fun k hk => by funext i; rw [ai_3, if_neg (by omega)])), h.tok.congr rfl (fun k h1 h2 => by funext i; rw [ai_3, if_neg (by omega)]), h.hT, h.c31, ?_, fun i hi => ?_, fun i hi => ?_, ?_, ?_, ?_⟩
  · funext i; rw [ai_3, if_neg (by omega), h.e26]
  · rw [ai_3, if_neg (by omega)]; exact h.e27 i hi
  · rw [ai_3, if_neg (by omega)]; exact h.e28 i hi
  · funext i; rw [ai_3, if_neg (by omega), h.e30]
  · rw [ai_3, if_neg (by omega)]; exact h.s
  · rw [ai_3, if_neg (by omega)]; exact h.ct
end
section
theorem CI.c39 {A : Nat → Nat → Int32} {tk gv : Nat → Nat} {N root c T : Nat} {σ : mSt} (hA : TabOk A N) (h : CI A tk gv N root σ (c + 1) T) : c ≤ 39 := by
  have h1 := h.dp c (by omega)
  have h2 := h.nd c (by omega)
  have h3 := hA.dp (en σ c) (by unfold en; omega)
  omega
theorem mid_row {A : Nat → Nat → Int32} {σ σ2 : mSt} {c T T' : Nat} (md : Mid A σ σ2 c T T') (i : Nat) : row σ2 i = row σ i := row_congr (fun k _ => by rw [md.e30])
theorem Mid.into {A : Nat → Nat → Int32} {tk gv : Nat → Nat} {N root c T T' m : Nat} {σ σ2 : mSt} {x : Int32} (hA : TabOk A N) (h : CI A tk gv N root σ (c + 1) T) (md : Mid A σ σ2 c T T') {n : Nat} (hn : 12 ≤ n) (hx : x.toInt = m)
    (good : σ2.1 34 = 0 → (parts A (en σ c))[es σ c]? = some m ∧ Wj A (facts σ2 T') tk gv T' (row σ c) (en σ c) (es σ c + 1) (ec σ2 c) (row σ c) m ∧ T' ≤ T) : S_Mo_into n σ2 x ∧ StepOk A tk gv N root σ (c + 1) T (F_Mo_into n σ2 x) := by
  have hc := h.c39 hA
  obtain ⟨s, ip⟩ := into_ok (c := c + 1) (σ := σ2) (by omega) (by have := md.c31; omega) hn (x := x)
  have fr2 : CkFr T' σ2 (F_Mo_into n σ2 x) := CkFr.of ip.l ip.ll (fun k hk => ip.f k (by omega)) (fun k hk => ip.a k (by omega))
  refine ⟨s, T', md.tok.congr (ip.f 3 (by decide)) (fun k _ _ => ip.a k (by omega)), md.hT, md.fr.trans md.hT fr2, fun hf => ?_⟩
  rw [ip.f 34 (by decide)] at hf
  obtain ⟨g1, g2, g3⟩ := good hf
  have er : row (F_Mo_into n σ2 x) (c + 1) = row σ c := (row_into ip).trans (mid_row md c)
  have r := Mid.go hA h md ip RowFr.rfl' hx g1 (rowv_of.mpr (by rw [er]; have := rowv_of.mp (h.rows c (by omega)); intro k hk; have := this k hk; have := md.hT; omega)) (by rw [er]; exact g2.mono (Nat.le_refl _) (fr2.facts (Nat.le_refl _))) (Or.inl g3)
  exact ⟨c + 2, r.1, r.2.1⟩
theorem Mid.intoWith {A : Nat → Nat → Int32} {tk gv : Nat → Nat} {N root c T T' m y : Nat} {σ σ2 : mSt} {x yy t : Int32} (hA : TabOk A N) (h : CI A tk gv N root σ (c + 1) T) (md : Mid A σ σ2 c T T') {n : Nat} (hn : 12 ≤ n) (hx : x.toInt = m) (hy : yy.toInt = y) (hy10 : y < 10) (ht : -1 ≤ t.toInt ∧ t.toInt < T')
    (good : σ2.1 34 = 0 → (parts A (en σ c))[es σ c]? = some m ∧ Wj A (facts σ2 T') tk gv T' (row σ c) (en σ c) (es σ c + 1) (ec σ2 c) (env (row σ c) y t.toInt) m ∧ T' ≤ T) : S_Mo_intoWith n σ2 x yy t ∧ StepOk A tk gv N root σ (c + 1) T (F_Mo_intoWith n σ2 x yy t) := by
  have hc := h.c39 hA
  obtain ⟨s, ip⟩ := into_ok (c := c + 1) (σ := σ2) (by omega) (by have := md.c31; omega) hn (x := x)
  simp only [S_Mo_intoWith, F_Mo_intoWith, mbind_eq]
  generalize F_Mo_into n σ2 x = σi at ip ⊢
  have f31 := ip.f31
  have hi : (10 * (σi.1 31 - 1) + yy).toNatClampNeg = 10 * (c + 1) + y := by ((try (simp only [vp_in, Int32.toNatClampNeg, Int32.lt_iff_toInt_lt, Int32.le_iff_toInt_le, ← Int32.toInt_inj, Int32.toInt_add, Int32.toInt_sub, Int32.toInt_mul, Int32.reduceToInt, i32_neg1, Nat.reducePow, Int.reducePow, ne_eq, ge_iff_le, gt_iff_lt] at *)) <;> (first | omega | ((simp (disch := omega) only [bm32] at *) <;> omega)))
  have hv : vp_in (10 * (σi.1 31 - 1) + yy) 450 := by ((try (simp only [vp_in, Int32.toNatClampNeg, Int32.lt_iff_toInt_lt, Int32.le_iff_toInt_le, ← Int32.toInt_inj, Int32.toInt_add, Int32.toInt_sub, Int32.toInt_mul, Int32.reduceToInt, i32_neg1, Nat.reducePow, Int.reducePow, ne_eq, ge_iff_le, gt_iff_lt] at *)) <;> (first | omega | ((simp (disch := omega) only [bm32] at *) <;> omega)))
  rw [hi]
  have rf : RowFr (c + 1) σi (mo_ai σi 30 (10 * (c + 1) + y) t) := RowFr.ai hy10
  have fr2 : CkFr T' σ2 (mo_ai σi 30 (10 * (c + 1) + y) t) := CkFr.of (by rw [rf.l, ip.l]) (by rw [rf.ll, ip.ll]) (fun k hk => by rw [rf.f, ip.f k (by omega)]) (fun k hk => by funext i; rw [rf.a k i (by omega), ip.a k (by omega)])
  refine ⟨⟨s, hv, trivial⟩, T', md.tok.congr (by rw [rf.f, ip.f 3 (by decide)]) (fun k _ _ => by funext i; rw [rf.a k i (by omega), ip.a k (by omega)]), md.hT, md.fr.trans md.hT fr2, fun hf => ?_⟩
  rw [rf.f, ip.f 34 (by decide)] at hf
  obtain ⟨g1, g2, g3⟩ := good hf
  have er : row (mo_ai σi 30 (10 * (c + 1) + y) t) (c + 1) = env (row σ c) y t.toInt := by rw [row_env hy10, row_into ip, mid_row md c]
  have rv := rowv_of.mp (h.rows c (by omega))
  have hT := md.hT
  have r := Mid.go hA h md ip rf hx g1 (rowv_of.mpr (by rw [er]; exact env_v (fun k hk => by have := rv k hk; omega) ht)) (by rw [er]; exact g2.mono (Nat.le_refl _) (fr2.facts (Nat.le_refl _))) (Or.inl g3)
  exact ⟨c + 2, r.1, r.2.1⟩
theorem Mid.ends {A : Nat → Nat → Int32} {tk gv : Nat → Nat} {N root c T T' : Nat} {σ σ2 : mSt} {x r : Int32} (hA : TabOk A N) (h : CI A tk gv N root σ (c + 1) T) (md : Mid A σ σ2 c T T')
    (good : σ2.1 34 = 0 → ∃ t : Nat, x.toInt = t ∧ t < T' ∧ Ty A (facts σ2 T') tk gv (row σ c) (en σ c) t ∧ T' ≤ T + pot A (en σ c) (es σ c)) : S_Mo_ends σ2 x r ∧ StepOk A tk gv N root σ (c + 1) T (F_Mo_ends σ2 x r) := by
  have hc := h.c39 hA
  have c31 := md.c31
  have e3 : (F_Mo_ends σ2 x r).1 3 = σ2.1 3 := by simp [si_1, si_2, sl_1, sl_2, sl_3, ai_1, ai_2, ai_3, ai_4, al_1, al_2, al_3, al_4, F_Mo_ends]
  have e34 : (F_Mo_ends σ2 x r).1 34 = σ2.1 34 := by simp [si_1, si_2, sl_1, sl_2, sl_3, ai_1, ai_2, ai_3, ai_4, al_1, al_2, al_3, al_4, F_Mo_ends]
  have e31 : (F_Mo_ends σ2 x r).1 31 = σ2.1 31 - 1 := by simp [si_1, si_2, sl_1, sl_2, sl_3, ai_1, ai_2, ai_3, ai_4, al_1, al_2, al_3, al_4, F_Mo_ends]
  have e32 : (F_Mo_ends σ2 x r).1 32 = x := by simp [si_1, si_2, sl_1, sl_2, sl_3, ai_1, ai_2, ai_3, ai_4, al_1, al_2, al_3, al_4, F_Mo_ends]
  have e2 : (F_Mo_ends σ2 x r).2 = σ2.2 := by simp [si_1, si_2, sl_1, sl_2, sl_3, ai_1, ai_2, ai_3, ai_4, al_1, al_2, al_3, al_4, F_Mo_ends]
  have fr2 : CkFr T' σ2 (F_Mo_ends σ2 x r) := CkFr.of (by rw [e2]) (by rw [e2]) (fun k hk => by simp only [F_Mo_ends, si_1]; rw [if_neg (by omega), if_neg (by omega), if_neg (by omega)]) (fun k _ => by rw [e2])
  have fr := md.fr.trans md.hT fr2
  have tok' := md.tok.congr e3 (fun k _ _ => by rw [e2])
  refine ⟨trivial, T', tok', md.hT, fr, fun hf => ?_⟩
  rw [e34] at hf
  obtain ⟨t, g1, g2, g3, g4⟩ := good hf
  have r := CI.leave h tok' md.hT (fr.facts md.hT) (fun k h1 h2 => by rw [fr.a k (by omega) (by omega)]; exact h.arr k h1 h2) (by rw [e31]; ((try (simp only [vp_in, Int32.toNatClampNeg, Int32.lt_iff_toInt_lt, Int32.le_iff_toInt_le, ← Int32.toInt_inj, Int32.toInt_add, Int32.toInt_sub, Int32.toInt_mul, Int32.reduceToInt, i32_neg1, Nat.reducePow, Int.reducePow, ne_eq, ge_iff_le, gt_iff_lt] at *)) <;> (first | omega | ((simp (disch := omega) only [bm32] at *) <;> omega)))) (fun i hi => by rw [e2, md.e26]) (fun i hi => by rw [e2]; exact md.e27 i hi) (fun i hi => by rw [e2]; exact md.e28 i hi) (fun i hi => by rw [e2, md.e30]) (g3.mono (fr2.facts (Nat.le_refl _))) (by rw [e32]; exact g1) g2 g4
  exact ⟨c, r.1, r.2⟩
end
section
/-- in a step: the node's numbers -/
def SI (A : Nat → Nat → Int32) (tk gv : Nat → Nat) (N C R root : Nat) (σ : mSt) (c T : Nat) : Prop := (CI A tk gv N root σ c T) ∧ (NOk σ N C R T) ∧ (∀ e, e < 8 → (σ.2.2.1 24 e).toInt = tk e ∧ tk e < T ∧ (σ.2.2.1 25 e).toInt = gv e ∧ gv e < T) ∧ (TabOk A N)
theorem SI.ci {A : Nat → Nat → Int32} {tk gv : Nat → Nat} {N C R root : Nat} {σ : mSt} {c T : Nat} (self : SI A tk gv N C R root σ c T) : CI A tk gv N root σ c T := self.1
theorem SI.ok {A : Nat → Nat → Int32} {tk gv : Nat → Nat} {N C R root : Nat} {σ : mSt} {c T : Nat} (self : SI A tk gv N C R root σ c T) : NOk σ N C R T := self.2.1
theorem SI.ef {A : Nat → Nat → Int32} {tk gv : Nat → Nat} {N C R root : Nat} {σ : mSt} {c T : Nat} (self : SI A tk gv N C R root σ c T) : ∀ e, e < 8 → (σ.2.2.1 24 e).toInt = tk e ∧ tk e < T ∧ (σ.2.2.1 25 e).toInt = gv e ∧ gv e < T := self.2.2.1
theorem SI.tab {A : Nat → Nat → Int32} {tk gv : Nat → Nat} {N C R root : Nat} {σ : mSt} {c T : Nat} (self : SI A tk gv N C R root σ c T) : TabOk A N := self.2.2.2
theorem parts_len {σ : mSt} {N C R T : Nat} (h : NOk σ N C R T) {n : Nat} (hn : n < N) : (parts σ.2.2.1 n).length ≤ 42 := by
  have := h.nd n hn
  have hC := h.hc
  unfold parts
  split
  · simp [si_1, si_2, sl_1, sl_2, sl_3, ai_1, ai_2, ai_3, ai_4, al_1, al_2, al_3, al_4]
  split
  · simp [si_1, si_2, sl_1, sl_2, sl_3, ai_1, ai_2, ai_3, ai_4, al_1, al_2, al_3, al_4]
  split
  · simp [si_1, si_2, sl_1, sl_2, sl_3, ai_1, ai_2, ai_3, ai_4, al_1, al_2, al_3, al_4]
  split
  · rename_i h8
    have c1 := this.cf h8
    simp only [List.length_cons, List.length_map, List.length_range]
    omega
  · simp [si_1, si_2, sl_1, sl_2, sl_3, ai_1, ai_2, ai_3, ai_4, al_1, al_2, al_3, al_4]
theorem parts_congr {A B : Nat → Nat → Int32} (h : ∀ k, 5 ≤ k → k ≤ 19 → A k = B k) (n : Nat) : parts A n = parts B n := by
  unfold parts
  rw [h 5 (by omega) (by omega), h 9 (by omega) (by omega), h 10 (by omega) (by omega), h 11 (by omega) (by omega), h 14 (by omega) (by omega), h 15 (by omega) (by omega), h 19 (by omega) (by omega)]
theorem parts4 {A : Nat → Nat → Int32} {n : Nat} (h : (A 5 n).toInt = 4 ∨ (A 5 n).toInt = 5 ∨ (A 5 n).toInt = 9 ∨ (A 5 n).toInt = 10) : parts A n = [(A 9 n).toInt.toNat, (A 10 n).toInt.toNat] := by
  unfold parts
  rw [if_neg (by omega), if_neg (by omega), if_neg (by omega), if_neg (by omega)]
/-- the number of a part -/
theorem partN {σ : mSt} {N : Nat} {x : Int32} {i : Nat} (h : Pt σ i x) (hne : x ≠ -1) : x.toInt = x.toInt.toNat := by
  rcases h with h | ⟨a, _, _⟩
  · contradiction
  · omega
/-- the pieces of a step that all kinds share -/
def StepA (A : Nat → Nat → Int32) (σ : mSt) (c T N : Nat) (σ1 : mSt) : Prop := ((σ.1 31 - 1).toNatClampNeg = c) ∧ (vp_in (σ.1 31 - 1) 45) ∧ (vp_in (σ.2.2.1 26 c) 200) ∧ ((σ.2.2.1 26 c).toNatClampNeg = en σ c) ∧ (en σ c < N) ∧ (Mid A σ σ1 c T T) ∧ (∀ k, k ≠ 27 → σ1.2.2.1 k = σ.2.2.1 k) ∧ (σ1.1 = σ.1)
theorem StepA.t {A : Nat → Nat → Int32} {σ : mSt} {c T N : Nat} {σ1 : mSt} (self : StepA A σ c T N σ1) : (σ.1 31 - 1).toNatClampNeg = c := self.1
theorem StepA.vt {A : Nat → Nat → Int32} {σ : mSt} {c T N : Nat} {σ1 : mSt} (self : StepA A σ c T N σ1) : vp_in (σ.1 31 - 1) 45 := self.2.1
theorem StepA.vn {A : Nat → Nat → Int32} {σ : mSt} {c T N : Nat} {σ1 : mSt} (self : StepA A σ c T N σ1) : vp_in (σ.2.2.1 26 c) 200 := self.2.2.1
theorem StepA.nn {A : Nat → Nat → Int32} {σ : mSt} {c T N : Nat} {σ1 : mSt} (self : StepA A σ c T N σ1) : (σ.2.2.1 26 c).toNatClampNeg = en σ c := self.2.2.2.1
theorem StepA.hn {A : Nat → Nat → Int32} {σ : mSt} {c T N : Nat} {σ1 : mSt} (self : StepA A σ c T N σ1) : en σ c < N := self.2.2.2.2.1
theorem StepA.md {A : Nat → Nat → Int32} {σ : mSt} {c T N : Nat} {σ1 : mSt} (self : StepA A σ c T N σ1) : Mid A σ σ1 c T T := self.2.2.2.2.2.1
theorem StepA.a1 {A : Nat → Nat → Int32} {σ : mSt} {c T N : Nat} {σ1 : mSt} (self : StepA A σ c T N σ1) : ∀ k, k ≠ 27 → σ1.2.2.1 k = σ.2.2.1 k := self.2.2.2.2.2.2.1
theorem StepA.f1 {A : Nat → Nat → Int32} {σ : mSt} {c T N : Nat} {σ1 : mSt} (self : StepA A σ c T N σ1) : σ1.1 = σ.1 := self.2.2.2.2.2.2.2
theorem SI.start {A : Nat → Nat → Int32} {tk gv : Nat → Nat} {N C R root c T : Nat} {σ : mSt} (h : SI A tk gv N C R root σ (c + 1) T) : StepA A σ c T N (mo_ai σ 27 c (σ.2.2.1 27 c + 1)) := by
  have h1 := h.ci.c31
  have h2 := h.ci.c39 h.tab
  have h3 := h.ci.nd c (by omega)
  have h4 := h.ok.hn
  have hs := h.ci.st c (by omega)
  refine ⟨by ((try (simp only [vp_in, Int32.toNatClampNeg, Int32.lt_iff_toInt_lt, Int32.le_iff_toInt_le, ← Int32.toInt_inj, Int32.toInt_add, Int32.toInt_sub, Int32.toInt_mul, Int32.reduceToInt, i32_neg1, Nat.reducePow, Int.reducePow, ne_eq, ge_iff_le, gt_iff_lt] at *)) <;> (first | omega | ((simp (disch := omega) only [bm32] at *) <;> omega))), by ((try (simp only [vp_in, Int32.toNatClampNeg, Int32.lt_iff_toInt_lt, Int32.le_iff_toInt_le, ← Int32.toInt_inj, Int32.toInt_add, Int32.toInt_sub, Int32.toInt_mul, Int32.reduceToInt, i32_neg1, Nat.reducePow, Int.reducePow, ne_eq, ge_iff_le, gt_iff_lt] at *)) <;> (first | omega | ((simp (disch := omega) only [bm32] at *) <;> omega))), by ((try (simp only [vp_in, Int32.toNatClampNeg, Int32.lt_iff_toInt_lt, Int32.le_iff_toInt_le, ← Int32.toInt_inj, Int32.toInt_add, Int32.toInt_sub, Int32.toInt_mul, Int32.reduceToInt, i32_neg1, Nat.reducePow, Int.reducePow, ne_eq, ge_iff_le, gt_iff_lt] at *)) <;> (first | omega | ((simp (disch := omega) only [bm32] at *) <;> omega))), rfl, by unfold en; omega, ?_, fun k hk => by funext i; rw [ai_3, if_neg (by omega)], rfl⟩
  have hl : (parts A (en σ c)).length ≤ 42 := by
    rw [← parts_congr h.ci.arr]; exact parts_len h.ok (by unfold en; omega)
  have hh := h.ci
  refine ⟨CkFr.of rfl rfl (fun _ _ => rfl) (fun k hk => by funext i; rw [ai_3, if_neg (by omega)]), hh.tok.congr rfl (fun k h1 h2 => by funext i; rw [ai_3, if_neg (by omega)]), Nat.le_refl _, hh.c31, by funext i; simp [si_1, si_2, sl_1, sl_2, sl_3, ai_1, ai_2, ai_3, ai_4, al_1, al_2, al_3, al_4], fun i hi => by rw [ai_3, if_neg (by omega)], fun i hi => by simp [si_1, si_2, sl_1, sl_2, sl_3, ai_1, ai_2, ai_3, ai_4, al_1, al_2, al_3, al_4], by funext i; simp [si_1, si_2, sl_1, sl_2, sl_3, ai_1, ai_2, ai_3, ai_4, al_1, al_2, al_3, al_4], ?_, ?_⟩
  · rw [ai_3, if_pos ⟨rfl, rfl⟩]; unfold es; ((try (simp only [vp_in, Int32.toNatClampNeg, Int32.lt_iff_toInt_lt, Int32.le_iff_toInt_le, ← Int32.toInt_inj, Int32.toInt_add, Int32.toInt_sub, Int32.toInt_mul, Int32.reduceToInt, i32_neg1, Nat.reducePow, Int.reducePow, ne_eq, ge_iff_le, gt_iff_lt] at *)) <;> (first | omega | ((simp (disch := omega) only [bm32] at *) <;> omega)))
  · rw [ai_3, if_neg (by omega)]; exact hh.ct c (by omega)
theorem step_let {A : Nat → Nat → Int32} {tk gv : Nat → Nat} {N C R root c T : Nat} {σ : mSt} (h : SI A tk gv N C R root σ (c + 1) T) (hk : (A 5 (en σ c)).toInt = 4) (hf : σ.1 34 = 0) {n : Nat} (hn : 12 ≤ n) : S_Mo_checkStep n σ ∧ StepOk A tk gv N root σ (c + 1) T (F_Mo_checkStep n σ) := by
  have st := h.start
  have hci := h.ci
  have arr := hci.arr
  have nd := h.ok.nd _ st.hn
  have hk5 : σ.2.2.1 5 (en σ c) = 4 := by rw [arr 5 (by omega) (by omega)]; ((try (simp only [vp_in, Int32.toNatClampNeg, Int32.lt_iff_toInt_lt, Int32.le_iff_toInt_le, ← Int32.toInt_inj, Int32.toInt_add, Int32.toInt_sub, Int32.toInt_mul, Int32.reduceToInt, i32_neg1, Nat.reducePow, Int.reducePow, ne_eq, ge_iff_le, gt_iff_lt] at *)) <;> (first | omega | ((simp (disch := omega) only [bm32] at *) <;> omega)))
  have hK : K σ (en σ c) = 4 := by unfold K; rw [hk5]; rfl
  simp only [S_Mo_checkStep, F_Mo_checkStep, st.t, st.nn, mbind_eq]
  generalize mo_ai σ 27 c (σ.2.2.1 27 c + 1) = σ1 at st ⊢
  have md := st.md
  have e5 : σ1.2.2.1 5 (en σ c) = 4 := by rw [st.a1 5 (by decide)]; exact hk5
  have q9 := partN (N := N) nd.pa (nd.ha (by omega))
  have q10 := partN (N := N) nd.pb (nd.hb (by omega))
  have hs := hci.st c (by omega)
  have pp : parts A (en σ c) = [(A 9 (en σ c)).toInt.toNat, (A 10 (en σ c)).toInt.toNat] := parts4 (Or.inl hk)
  rw [pp] at hs
  simp only [List.length_cons, List.length_nil] at hs
  simp only [if_pos e5]
  have v := st.vt
  have vn := st.vn
  by_cases s0 : σ.2.2.1 27 c = 0
  · simp only [if_pos s0]
    have es0 : es σ c = 0 := by unfold es; rw [s0]; rfl
    have r := Mid.into (tk := tk) (gv := gv) h.tab hci md hn (x := σ1.2.2.1 9 (en σ c)) (m := (A 9 (en σ c)).toInt.toNat) (by rw [st.a1 9 (by decide), arr 9 (by omega) (by omega)] ; rw [arr 9 (by omega) (by omega)] at q9; exact q9) (fun _ => ⟨by rw [pp, es0]; rfl, by rw [es0]; exact .let1 hk, Nat.le_refl _⟩)
    exact ⟨⟨v, v, v, v, vn, vn, r.1, trivial⟩, r.2⟩
  simp only [if_neg s0]
  obtain hw | ⟨g, m, t, w, ty, ft, ht⟩ := hci.top c rfl
  · exact absurd hw (by unfold es; intro hh; apply s0; ((try (simp only [vp_in, Int32.toNatClampNeg, Int32.lt_iff_toInt_lt, Int32.le_iff_toInt_le, ← Int32.toInt_inj, Int32.toInt_add, Int32.toInt_sub, Int32.toInt_mul, Int32.reduceToInt, i32_neg1, Nat.reducePow, Int.reducePow, ne_eq, ge_iff_le, gt_iff_lt] at *)) <;> (first | omega | ((simp (disch := omega) only [bm32] at *) <;> omega))))
  by_cases s1 : σ.2.2.1 27 c = 1
  · simp only [if_pos s1]
    have es1 : es σ c = 1 := by unfold es; rw [s1]; rfl
    rw [es1] at w
    have wl : g = row σ c ∧ m = (A 9 (en σ c)).toInt.toNat := by
      generalize hS : (1 : Nat) = s at w
      cases w using Wj.cs <;> first | (exact ⟨rfl, rfl⟩) | omega
    obtain ⟨rfl, rfl⟩ := wl
    have nm := nd.nm (by omega)
    have md2 := md.set29 (i := c) (x := σ1.1 33)
    have r := Mid.intoWith (tk := tk) (gv := gv) h.tab hci md2 hn (x := σ1.2.2.1 10 (en σ c)) (yy := σ1.2.2.1 6 (en σ c)) (t := σ1.1 32) (m := (A 10 (en σ c)).toInt.toNat) (y := (A 6 (en σ c)).toInt.toNat) (by rw [st.a1 10 (by decide), arr 10 (by omega) (by omega)]; rw [arr 10 (by omega) (by omega)] at q10; exact q10) (by rw [st.a1 6 (by decide), arr 6 (by omega) (by omega)]; rw [arr 6 (by omega) (by omega)] at nm; omega) (by rw [arr 6 (by omega) (by omega)] at nm; omega) (by rw [st.f1, ft]; omega) (fun _ => ⟨by rw [pp, es1]; rfl, by rw [es1, st.f1, ft]; exact .let2 hk (ty.mono (md2.fr.facts (Nat.le_refl _))), Nat.le_refl _⟩)
    have e1 : (mo_ai σ1 29 c (σ1.1 33)).2.2.1 10 (en σ c) = σ1.2.2.1 10 (en σ c) := by simp [si_1, si_2, sl_1, sl_2, sl_3, ai_1, ai_2, ai_3, ai_4, al_1, al_2, al_3, al_4]
    have e2 : (mo_ai σ1 29 c (σ1.1 33)).2.2.1 6 (en σ c) = σ1.2.2.1 6 (en σ c) := by simp [si_1, si_2, sl_1, sl_2, sl_3, ai_1, ai_2, ai_3, ai_4, al_1, al_2, al_3, al_4]
    rw [e1, e2]
    exact ⟨⟨v, v, v, v, vn, v, vn, vn, r.1, trivial⟩, r.2⟩
  · simp only [if_neg s1]
    have es2 : es σ c = 2 := by unfold es; ((try (simp only [vp_in, Int32.toNatClampNeg, Int32.lt_iff_toInt_lt, Int32.le_iff_toInt_le, ← Int32.toInt_inj, Int32.toInt_add, Int32.toInt_sub, Int32.toInt_mul, Int32.reduceToInt, i32_neg1, Nat.reducePow, Int.reducePow, ne_eq, ge_iff_le, gt_iff_lt] at *)) <;> (first | omega | ((simp (disch := omega) only [bm32] at *) <;> omega)))
    rw [es2] at w
    have wl : ∃ t1, Ty A (facts σ T) tk gv (row σ c) (A 9 (en σ c)).toInt.toNat t1 ∧ g = env (row σ c) (A 6 (en σ c)).toInt.toNat t1 ∧ m = (A 10 (en σ c)).toInt.toNat := by
      generalize hS : (2 : Nat) = s at w
      cases w using Wj.cs <;> first | (exact ⟨_, by assumption, rfl, rfl⟩) | omega
    obtain ⟨t1, ty1, rfl, rfl⟩ := wl
    have r := Mid.ends (tk := tk) (gv := gv) (r := σ1.2.2.1 29 c ||| σ1.1 33) h.tab hci md (x := σ1.1 32) (fun _ => ⟨t, by rw [st.f1]; exact ft, ht, (Ty.lett hk ty1 ty).mono (md.fr.facts (Nat.le_refl _)), Nat.le_add_right _ _⟩)
    exact ⟨⟨v, v, v, v, vn, v, r.1, trivial⟩, r.2⟩
end
section
theorem step_two {A : Nat → Nat → Int32} {tk gv : Nat → Nat} {N C R root c T : Nat} {σ : mSt} (h : SI A tk gv N C R root σ (c + 1) T) (hk : (A 5 (en σ c)).toInt = 9) (hf : σ.1 34 = 0) {n : Nat} (hn : 12 ≤ n) : S_Mo_checkStep n σ ∧ StepOk A tk gv N root σ (c + 1) T (F_Mo_checkStep n σ) := by
  have st := h.start
  have hci := h.ci
  have arr := hci.arr
  have hT3 := hci.tok.lo
  have nd := h.ok.nd _ st.hn
  have hk5 : σ.2.2.1 5 (en σ c) = 9 := by rw [arr 5 (by omega) (by omega)]; ((try (simp only [vp_in, Int32.toNatClampNeg, Int32.lt_iff_toInt_lt, Int32.le_iff_toInt_le, ← Int32.toInt_inj, Int32.toInt_add, Int32.toInt_sub, Int32.toInt_mul, Int32.reduceToInt, i32_neg1, Nat.reducePow, Int.reducePow, ne_eq, ge_iff_le, gt_iff_lt] at *)) <;> (first | omega | ((simp (disch := omega) only [bm32] at *) <;> omega)))
  have hK : K σ (en σ c) = 9 := by unfold K; rw [hk5]; rfl
  simp only [S_Mo_checkStep, F_Mo_checkStep, st.t, st.nn, mbind_eq]
  generalize mo_ai σ 27 c (σ.2.2.1 27 c + 1) = σ1 at st ⊢
  have md := st.md
  have e5 : σ1.2.2.1 5 (en σ c) = 9 := by rw [st.a1 5 (by decide)]; exact hk5
  have q9 := partN (N := N) nd.pa (nd.ha (by omega))
  have q10 := partN (N := N) nd.pb (nd.hb (by omega))
  rw [arr 9 (by omega) (by omega)] at q9
  rw [arr 10 (by omega) (by omega)] at q10
  have hs := hci.st c (by omega)
  have pp : parts A (en σ c) = [(A 9 (en σ c)).toInt.toNat, (A 10 (en σ c)).toInt.toNat] := parts4 (by omega)
  rw [pp] at hs
  simp only [List.length_cons, List.length_nil] at hs
  have k4 : ¬ (9 : Int32) = 4 := by decide
  have k5 : ¬ (9 : Int32) = 5 := by decide
  have k6 : ¬ (9 : Int32) = 6 := by decide
  have k7 : ¬ (9 : Int32) = 7 := by decide
  have k8 : ¬ (9 : Int32) = 8 := by decide
  simp only [e5, if_neg k4, if_neg k5, if_neg k6, if_neg k7, if_neg k8, if_true]
  have v := st.vt
  have vn := st.vn
  have ht' := st.t
  have hnn := st.nn
  have a9 : σ1.2.2.1 9 (en σ c) = A 9 (en σ c) := by rw [st.a1 9 (by decide), arr 9 (by omega) (by omega)]
  have a10 : σ1.2.2.1 10 (en σ c) = A 10 (en σ c) := by rw [st.a1 10 (by decide), arr 10 (by omega) (by omega)]
  have a6 : σ1.2.2.1 6 (en σ c) = A 6 (en σ c) := by rw [st.a1 6 (by decide), arr 6 (by omega) (by omega)]
  simp only [S_Mo_checkTwo, F_Mo_checkTwo, ht', hnn, mbind_eq]
  by_cases s0 : σ.2.2.1 27 c = 0
  · simp only [if_pos s0]
    have es0 : es σ c = 0 := by unfold es; rw [s0]; rfl
    have r := Mid.into (tk := tk) (gv := gv) h.tab hci md hn (x := σ1.2.2.1 9 (en σ c)) (m := (A 9 (en σ c)).toInt.toNat) (by rw [a9]; exact q9) (fun _ => ⟨by rw [pp, es0]; rfl, by rw [es0]; exact .two1 hk, Nat.le_refl _⟩)
    exact ⟨⟨v, v, v, v, vn, ⟨vn, r.1, trivial⟩, trivial⟩, r.2⟩
  simp only [if_neg s0]
  obtain hw | ⟨g, m, t, w, ty, ft, ht⟩ := hci.top c rfl
  · exact absurd hw (by unfold es; intro hh; apply s0; ((try (simp only [vp_in, Int32.toNatClampNeg, Int32.lt_iff_toInt_lt, Int32.le_iff_toInt_le, ← Int32.toInt_inj, Int32.toInt_add, Int32.toInt_sub, Int32.toInt_mul, Int32.reduceToInt, i32_neg1, Nat.reducePow, Int.reducePow, ne_eq, ge_iff_le, gt_iff_lt] at *)) <;> (first | omega | ((simp (disch := omega) only [bm32] at *) <;> omega))))
  by_cases s1 : σ.2.2.1 27 c = 1
  · simp only [if_pos s1]
    have es1 : es σ c = 1 := by unfold es; rw [s1]; rfl
    rw [es1] at w
    have wl : g = row σ c ∧ m = (A 9 (en σ c)).toInt.toNat := by
      generalize hS : (1 : Nat) = s at w
      cases w using Wj.cs <;> first | (exact ⟨rfl, rfl⟩) | omega
    obtain ⟨rfl, rfl⟩ := wl
    have md2 := (md.set28 (x := σ1.1 32) (by rw [st.f1, ft]; omega)).set29 (i := c) (x := (mo_ai σ1 28 c (σ1.1 32)).1 33)
    have ect : ec (mo_ai (mo_ai σ1 28 c (σ1.1 32)) 29 c ((mo_ai σ1 28 c (σ1.1 32)).1 33)) c = t := by unfold ec; simp [si_1, si_2, sl_1, sl_2, sl_3, ai_1, ai_2, ai_3, ai_4, al_1, al_2, al_3, al_4, st.f1]; ((try (simp only [vp_in, Int32.toNatClampNeg, Int32.lt_iff_toInt_lt, Int32.le_iff_toInt_le, ← Int32.toInt_inj, Int32.toInt_add, Int32.toInt_sub, Int32.toInt_mul, Int32.reduceToInt, i32_neg1, Nat.reducePow, Int.reducePow, ne_eq, ge_iff_le, gt_iff_lt] at *)) <;> (first | omega | ((simp (disch := omega) only [bm32] at *) <;> omega)))
    have e1 : (mo_ai (mo_ai σ1 28 c (σ1.1 32)) 29 c ((mo_ai σ1 28 c (σ1.1 32)).1 33)).2.2.1 10 (en σ c) = A 10 (en σ c) := by rw [ai_3, if_neg (by omega), ai_3, if_neg (by omega)]; exact a10
    have r := Mid.into (tk := tk) (gv := gv) h.tab hci md2 hn (x := A 10 (en σ c)) (m := (A 10 (en σ c)).toInt.toNat) q10 (fun _ => ⟨by rw [pp, es1]; rfl, by rw [es1, ect]; exact .two2 hk (ty.mono (md2.fr.facts (Nat.le_refl _))), Nat.le_refl _⟩)
    rw [e1]
    exact ⟨⟨v, v, v, v, vn, ⟨v, v, vn, r.1, trivial⟩, trivial⟩, r.2⟩
  · simp only [if_neg s1]
    have es2 : es σ c = 2 := by unfold es; ((try (simp only [vp_in, Int32.toNatClampNeg, Int32.lt_iff_toInt_lt, Int32.le_iff_toInt_le, ← Int32.toInt_inj, Int32.toInt_add, Int32.toInt_sub, Int32.toInt_mul, Int32.reduceToInt, i32_neg1, Nat.reducePow, Int.reducePow, ne_eq, ge_iff_le, gt_iff_lt] at *)) <;> (first | omega | ((simp (disch := omega) only [bm32] at *) <;> omega)))
    rw [es2] at w
    have wl : Ty A (facts σ T) tk gv (row σ c) (A 9 (en σ c)).toInt.toNat (ec σ c) ∧ g = row σ c ∧ m = (A 10 (en σ c)).toInt.toNat := by
      generalize hS : (2 : Nat) = s at w
      generalize hE : ec σ c = e at w
      cases w using Wj.cs <;> first | (exact ⟨by assumption, rfl, rfl⟩) | omega
    obtain ⟨ty1, rfl, rfl⟩ := wl
    have hct := hci.ct c (by omega)
    -- the end, from any state of this step
    have fin : ∀ σ2 : mSt, Mid A σ σ2 c T T → (σ2.1 34 = 0 → σ2 = σ1 ∧ ec σ c = 0 ∧ t = 0) → σ2.2.2.1 6 (en σ c) = A 6 (en σ c) → S_Mo_checkTwo_j91 n σ2 (σ.1 31 - 1) (σ.2.2.1 26 c) ∧ StepOk A tk gv N root σ (c + 1) T (F_Mo_checkTwo_j91 n σ2 (σ.1 31 - 1) (σ.2.2.1 26 c)) := by
      intro σ2 m2 hg h6
      simp only [S_Mo_checkTwo_j91, F_Mo_checkTwo_j91, S_Mo_checkTwo_j107, F_Mo_checkTwo_j107, hnn, ht', mbind_eq, h6]
      split
      · rename_i h3
        have r := Mid.ends (tk := tk) (gv := gv) (r := σ2.2.2.1 29 c ||| σ2.1 33) h.tab hci m2 (x := 1) (fun hz => ⟨1, rfl, by omega, by
          obtain ⟨_, z1, z2⟩ := hg hz
          have := (Ty.two hk (by rw [← z1]; exact ty1) (by rw [← z2]; exact ty)).mono (m2.fr.facts (Nat.le_refl _))
          rw [if_neg (by ((try (simp only [vp_in, Int32.toNatClampNeg, Int32.lt_iff_toInt_lt, Int32.le_iff_toInt_le, ← Int32.toInt_inj, Int32.toInt_add, Int32.toInt_sub, Int32.toInt_mul, Int32.reduceToInt, i32_neg1, Nat.reducePow, Int.reducePow, ne_eq, ge_iff_le, gt_iff_lt] at *)) <;> (first | omega | ((simp (disch := omega) only [bm32] at *) <;> omega))))] at this; exact this, Nat.le_add_right _ _⟩)
        exact ⟨⟨vn, v, r.1, trivial⟩, r.2⟩
      · rename_i h3
        have r := Mid.ends (tk := tk) (gv := gv) (r := σ2.2.2.1 29 c ||| σ2.1 33) h.tab hci m2 (x := 0) (fun hz => ⟨0, rfl, by omega, by
          obtain ⟨_, z1, z2⟩ := hg hz
          have := (Ty.two hk (by rw [← z1]; exact ty1) (by rw [← z2]; exact ty)).mono (m2.fr.facts (Nat.le_refl _))
          rw [if_pos (by ((try (simp only [vp_in, Int32.toNatClampNeg, Int32.lt_iff_toInt_lt, Int32.le_iff_toInt_le, ← Int32.toInt_inj, Int32.toInt_add, Int32.toInt_sub, Int32.toInt_mul, Int32.reduceToInt, i32_neg1, Nat.reducePow, Int.reducePow, ne_eq, ge_iff_le, gt_iff_lt] at *)) <;> (first | omega | ((simp (disch := omega) only [bm32] at *) <;> omega))))] at this; exact this, Nat.le_add_right _ _⟩)
        exact ⟨⟨vn, v, r.1, trivial⟩, r.2⟩
    have mid72 : ∀ σ2 : mSt, Mid A σ σ2 c T T → (σ2.1 34 = 0 → σ2 = σ1 ∧ ec σ c = 0) → σ2.1 32 = σ.1 32 → σ2.2.2.1 6 (en σ c) = A 6 (en σ c) → S_Mo_checkTwo_j72 n σ2 (σ.1 31 - 1) (σ.2.2.1 26 c) ∧ StepOk A tk gv N root σ (c + 1) T (F_Mo_checkTwo_j72 n σ2 (σ.1 31 - 1) (σ.2.2.1 26 c)) := by
      intro σ2 m2 hg h32 h6
      simp only [S_Mo_checkTwo_j72, F_Mo_checkTwo_j72, hnn, mbind_eq, h32]
      by_cases z : σ.1 32 = 0
      · simp only [if_pos z]
        exact fin σ2 m2 (fun hz => ⟨(hg hz).1, (hg hz).2, by ((try (simp only [vp_in, Int32.toNatClampNeg, Int32.lt_iff_toInt_lt, Int32.le_iff_toInt_le, ← Int32.toInt_inj, Int32.toInt_add, Int32.toInt_sub, Int32.toInt_mul, Int32.reduceToInt, i32_neg1, Nat.reducePow, Int.reducePow, ne_eq, ge_iff_le, gt_iff_lt] at *)) <;> (first | omega | ((simp (disch := omega) only [bm32] at *) <;> omega)))⟩) h6
      · simp only [if_neg z]
        obtain ⟨w1, w2⟩ := m2.wrong (x := 6) (y := σ2.2.2.1 10 (en σ c)) (by decide)
        have ww := wrong_ok (σ := σ2) (x := 6) (y := σ2.2.2.1 10 (en σ c)) (by decide)
        have r := fin _ w1 (fun hz => absurd hz w2) (by rw [ww.2.2.2]; exact h6)
        exact ⟨⟨vn, ww.1, r.1⟩, r.2⟩
    have e28 : σ1.2.2.1 28 c = σ.2.2.1 28 c := by rw [st.a1 28 (by decide)]
    rw [e28]
    by_cases z : σ.2.2.1 28 c = 0
    · simp only [if_pos z]
      have r := mid72 σ1 md (fun _ => ⟨rfl, by unfold ec; rw [z]; rfl⟩) (by rw [st.f1]) a6
      exact ⟨⟨v, v, v, v, vn, ⟨v, r.1⟩, trivial⟩, r.2⟩
    · simp only [if_neg z]
      obtain ⟨w1, w2⟩ := md.wrong (x := 6) (y := σ1.2.2.1 9 (en σ c)) (by decide)
      have ww := wrong_ok (σ := σ1) (x := 6) (y := σ1.2.2.1 9 (en σ c)) (by decide)
      have r := mid72 _ w1 (fun hz => absurd hz w2) (by rw [ww.2.2.1 32 (by decide) (by decide), st.f1]) (by rw [ww.2.2.2]; exact a6)
      exact ⟨⟨v, v, v, v, vn, ⟨v, vn, ww.1, r.1⟩, trivial⟩, r.2⟩
end
section
theorem step_if {A : Nat → Nat → Int32} {tk gv : Nat → Nat} {N C R root c T : Nat} {σ : mSt} (h : SI A tk gv N C R root σ (c + 1) T) (hk : (A 5 (en σ c)).toInt = 6) (hf : σ.1 34 = 0) {n : Nat} (hn : 12 ≤ n) : S_Mo_checkStep n σ ∧ StepOk A tk gv N root σ (c + 1) T (F_Mo_checkStep n σ) := by
  have st := h.start
  have hci := h.ci
  have arr := hci.arr
  have hT3 := hci.tok.lo
  have nd := h.ok.nd _ st.hn
  have hk5 : σ.2.2.1 5 (en σ c) = 6 := by rw [arr 5 (by omega) (by omega)]; ((try (simp only [vp_in, Int32.toNatClampNeg, Int32.lt_iff_toInt_lt, Int32.le_iff_toInt_le, ← Int32.toInt_inj, Int32.toInt_add, Int32.toInt_sub, Int32.toInt_mul, Int32.reduceToInt, i32_neg1, Nat.reducePow, Int.reducePow, ne_eq, ge_iff_le, gt_iff_lt] at *)) <;> (first | omega | ((simp (disch := omega) only [bm32] at *) <;> omega)))
  have hK : K σ (en σ c) = 6 := by unfold K; rw [hk5]; rfl
  simp only [S_Mo_checkStep, F_Mo_checkStep, st.t, st.nn, mbind_eq]
  generalize mo_ai σ 27 c (σ.2.2.1 27 c + 1) = σ1 at st ⊢
  have md := st.md
  have e5 : σ1.2.2.1 5 (en σ c) = 6 := by rw [st.a1 5 (by decide)]; exact hk5
  have q9 := partN (N := N) nd.pa (nd.ha (by omega))
  have q10 := partN (N := N) nd.pb (nd.hb (by omega))
  have q11 := partN (N := N) nd.pc (nd.hc (by omega))
  rw [arr 9 (by omega) (by omega)] at q9
  rw [arr 10 (by omega) (by omega)] at q10
  rw [arr 11 (by omega) (by omega)] at q11
  have hs := hci.st c (by omega)
  have pp : parts A (en σ c) = [(A 9 (en σ c)).toInt.toNat, (A 10 (en σ c)).toInt.toNat, (A 11 (en σ c)).toInt.toNat] := by
    unfold parts; rw [if_neg (by omega), if_neg (by omega), if_pos (by omega)]
  rw [pp] at hs
  simp only [List.length_cons, List.length_nil] at hs
  have k4 : ¬ (6 : Int32) = 4 := by decide
  have k5 : ¬ (6 : Int32) = 5 := by decide
  simp only [e5, if_neg k4, if_neg k5, if_true]
  have v := st.vt
  have vn := st.vn
  have ht' := st.t
  have hnn := st.nn
  have a9 : σ1.2.2.1 9 (en σ c) = A 9 (en σ c) := by rw [st.a1 9 (by decide), arr 9 (by omega) (by omega)]
  have a10 : σ1.2.2.1 10 (en σ c) = A 10 (en σ c) := by rw [st.a1 10 (by decide), arr 10 (by omega) (by omega)]
  have a11 : σ1.2.2.1 11 (en σ c) = A 11 (en σ c) := by rw [st.a1 11 (by decide), arr 11 (by omega) (by omega)]
  simp only [S_Mo_checkIf, F_Mo_checkIf, ht', hnn, mbind_eq]
  by_cases s0 : σ.2.2.1 27 c = 0
  · simp only [if_pos s0]
    have es0 : es σ c = 0 := by unfold es; rw [s0]; rfl
    have r := Mid.into (tk := tk) (gv := gv) h.tab hci md hn (x := σ1.2.2.1 9 (en σ c)) (m := (A 9 (en σ c)).toInt.toNat) (by rw [a9]; exact q9) (fun _ => ⟨by rw [pp, es0]; rfl, by rw [es0]; exact .if1 hk, Nat.le_refl _⟩)
    exact ⟨⟨v, v, v, v, vn, ⟨vn, r.1, trivial⟩, trivial⟩, r.2⟩
  simp only [if_neg s0]
  obtain hw | ⟨g, m, t, w, ty, ft, ht⟩ := hci.top c rfl
  · exact absurd hw (by unfold es; intro hh; apply s0; ((try (simp only [vp_in, Int32.toNatClampNeg, Int32.lt_iff_toInt_lt, Int32.le_iff_toInt_le, ← Int32.toInt_inj, Int32.toInt_add, Int32.toInt_sub, Int32.toInt_mul, Int32.reduceToInt, i32_neg1, Nat.reducePow, Int.reducePow, ne_eq, ge_iff_le, gt_iff_lt] at *)) <;> (first | omega | ((simp (disch := omega) only [bm32] at *) <;> omega))))
  by_cases s1 : σ.2.2.1 27 c = 1
  · simp only [if_pos s1]
    have es1 : es σ c = 1 := by unfold es; rw [s1]; rfl
    rw [es1] at w
    have wl : g = row σ c ∧ m = (A 9 (en σ c)).toInt.toNat := by
      generalize hS : (1 : Nat) = s at w
      cases w using Wj.cs <;> first | (exact ⟨rfl, rfl⟩) | omega
    obtain ⟨rfl, rfl⟩ := wl
    have fin : ∀ σ2 : mSt, Mid A σ σ2 c T T → (σ2.1 34 = 0 → t = 1) → σ2.2.2.1 10 (en σ c) = A 10 (en σ c) → S_Mo_checkIf_j42 n σ2 (σ.1 31 - 1) (σ.2.2.1 26 c) ∧ StepOk A tk gv N root σ (c + 1) T (F_Mo_checkIf_j42 n σ2 (σ.1 31 - 1) (σ.2.2.1 26 c)) := by
      intro σ2 m2 hg h10
      simp only [S_Mo_checkIf_j42, F_Mo_checkIf_j42, hnn, ht', mbind_eq]
      have m3 := m2.set29 (i := c) (x := σ2.1 33)
      have e1 : (mo_ai σ2 29 c (σ2.1 33)).2.2.1 10 (en σ c) = A 10 (en σ c) := by rw [ai_3, if_neg (by omega)]; exact h10
      have r := Mid.into (tk := tk) (gv := gv) h.tab hci m3 hn (x := A 10 (en σ c)) (m := (A 10 (en σ c)).toInt.toNat) q10 (fun hz => ⟨by rw [pp, es1]; rfl, by
        have t1 := hg hz
        subst t1
        rw [es1]; exact .if2 hk (ty.mono (m3.fr.facts (Nat.le_refl _))), Nat.le_refl _⟩)
      rw [e1]
      exact ⟨⟨v, vn, r.1, trivial⟩, r.2⟩
    have e32 : σ1.1 32 = σ.1 32 := by rw [st.f1]
    rw [e32]
    by_cases z : σ.1 32 = 1
    · simp only [if_pos z]
      have r := fin σ1 md (fun _ => by ((try (simp only [vp_in, Int32.toNatClampNeg, Int32.lt_iff_toInt_lt, Int32.le_iff_toInt_le, ← Int32.toInt_inj, Int32.toInt_add, Int32.toInt_sub, Int32.toInt_mul, Int32.reduceToInt, i32_neg1, Nat.reducePow, Int.reducePow, ne_eq, ge_iff_le, gt_iff_lt] at *)) <;> (first | omega | ((simp (disch := omega) only [bm32] at *) <;> omega)))) a10
      exact ⟨⟨v, v, v, v, vn, r.1, trivial⟩, r.2⟩
    · simp only [if_neg z]
      obtain ⟨w1, w2⟩ := md.wrong (x := 6) (y := σ1.2.2.1 9 (en σ c)) (by decide)
      have ww := wrong_ok (σ := σ1) (x := 6) (y := σ1.2.2.1 9 (en σ c)) (by decide)
      have r := fin _ w1 (fun hz => absurd hz w2) (by rw [ww.2.2.2]; exact a10)
      exact ⟨⟨v, v, v, v, vn, ⟨vn, ww.1, r.1⟩, trivial⟩, r.2⟩
  simp only [if_neg s1]
  by_cases s2 : σ.2.2.1 27 c = 2
  · simp only [if_pos s2]
    have es2 : es σ c = 2 := by unfold es; rw [s2]; rfl
    rw [es2] at w
    have wl : Ty A (facts σ T) tk gv (row σ c) (A 9 (en σ c)).toInt.toNat 1 ∧ g = row σ c ∧ m = (A 10 (en σ c)).toInt.toNat := by
      generalize hS : (2 : Nat) = s at w
      cases w using Wj.cs <;> first | (exact ⟨by assumption, rfl, rfl⟩) | omega
    obtain ⟨ty1, rfl, rfl⟩ := wl
    have md2 := (md.set28 (x := σ1.1 32) (by rw [st.f1, ft]; omega)).set29 (i := c) (x := (mo_ai σ1 28 c (σ1.1 32)).2.2.1 29 c ||| (mo_ai σ1 28 c (σ1.1 32)).1 33)
    have ect : ec (mo_ai (mo_ai σ1 28 c (σ1.1 32)) 29 c ((mo_ai σ1 28 c (σ1.1 32)).2.2.1 29 c ||| (mo_ai σ1 28 c (σ1.1 32)).1 33)) c = t := by
      unfold ec; rw [ai_3, if_neg (by omega), ai_3, if_pos ⟨rfl, rfl⟩, st.f1]; omega
    have e1 : (mo_ai (mo_ai σ1 28 c (σ1.1 32)) 29 c ((mo_ai σ1 28 c (σ1.1 32)).2.2.1 29 c ||| (mo_ai σ1 28 c (σ1.1 32)).1 33)).2.2.1 11 (en σ c) = A 11 (en σ c) := by rw [ai_3, if_neg (by omega), ai_3, if_neg (by omega)]; exact a11
    have r := Mid.into (tk := tk) (gv := gv) h.tab hci md2 hn (x := A 11 (en σ c)) (m := (A 11 (en σ c)).toInt.toNat) q11 (fun _ => ⟨by rw [pp, es2]; rfl, by rw [es2, ect]; exact .if3 hk (ty1.mono (md2.fr.facts (Nat.le_refl _))) (ty.mono (md2.fr.facts (Nat.le_refl _))), Nat.le_refl _⟩)
    rw [e1]
    exact ⟨⟨v, v, v, v, vn, ⟨v, v, v, vn, r.1, trivial⟩, trivial⟩, r.2⟩
  · simp only [if_neg s2]
    have es3 : es σ c = 3 := by unfold es; ((try (simp only [vp_in, Int32.toNatClampNeg, Int32.lt_iff_toInt_lt, Int32.le_iff_toInt_le, ← Int32.toInt_inj, Int32.toInt_add, Int32.toInt_sub, Int32.toInt_mul, Int32.reduceToInt, i32_neg1, Nat.reducePow, Int.reducePow, ne_eq, ge_iff_le, gt_iff_lt] at *)) <;> (first | omega | ((simp (disch := omega) only [bm32] at *) <;> omega)))
    rw [es3] at w
    have wl : Ty A (facts σ T) tk gv (row σ c) (A 9 (en σ c)).toInt.toNat 1 ∧ Ty A (facts σ T) tk gv (row σ c) (A 10 (en σ c)).toInt.toNat (ec σ c) ∧ g = row σ c ∧ m = (A 11 (en σ c)).toInt.toNat := by
      generalize hS : (3 : Nat) = s at w
      generalize hE : ec σ c = e at w
      cases w using Wj.cs <;> first | (exact ⟨by assumption, by assumption, rfl, rfl⟩) | omega
    obtain ⟨ty1, ty2, rfl, rfl⟩ := wl
    have hct := hci.ct c (by omega)
    have fin : ∀ σ2 : mSt, Mid A σ σ2 c T T → (σ2.1 34 = 0 → ec σ c = t) → σ2.2.2.1 28 c = σ.2.2.1 28 c → S_Mo_checkIf_j131 n σ2 (σ.1 31 - 1) ∧ StepOk A tk gv N root σ (c + 1) T (F_Mo_checkIf_j131 n σ2 (σ.1 31 - 1)) := by
      intro σ2 m2 hg h28
      simp only [S_Mo_checkIf_j131, F_Mo_checkIf_j131, ht', mbind_eq, h28]
      have r := Mid.ends (tk := tk) (gv := gv) (r := σ2.2.2.1 29 c ||| σ2.1 33) h.tab hci m2 (x := σ.2.2.1 28 c) (fun hz => ⟨t, by
        have := hg hz
        unfold ec at this; omega, ht, by
        have e := hg hz
        rw [e] at ty2
        exact (Ty.ite hk ty1 ty2 ty).mono (m2.fr.facts (Nat.le_refl _)), Nat.le_add_right _ _⟩)
      exact ⟨⟨v, v, r.1, trivial⟩, r.2⟩
    have e32 : σ1.1 32 = σ.1 32 := by rw [st.f1]
    have e28 : σ1.2.2.1 28 c = σ.2.2.1 28 c := by rw [st.a1 28 (by decide)]
    rw [e32, e28]
    by_cases z : σ.1 32 = σ.2.2.1 28 c
    · simp only [if_pos z]
      have r := fin σ1 md (fun _ => by unfold ec; rw [← z]; omega) e28
      exact ⟨⟨v, v, v, v, vn, ⟨v, r.1⟩, trivial⟩, r.2⟩
    · simp only [if_neg z]
      obtain ⟨w1, w2⟩ := md.wrong (x := 6) (y := σ1.2.2.1 11 (en σ c)) (by decide)
      have ww := wrong_ok (σ := σ1) (x := 6) (y := σ1.2.2.1 11 (en σ c)) (by decide)
      have r := fin _ w1 (fun hz => absurd hz w2) (by rw [ww.2.2.2]; exact e28)
      exact ⟨⟨v, v, v, v, vn, ⟨v, vn, ww.1, r.1⟩, trivial⟩, r.2⟩
end
section
theorem facts_fn {σ : mSt} {T r : Nat} (h : TOk σ T) (h1 : 3 ≤ r) (h2 : r < T) : (facts σ T).fn r (Ta σ r) (Tr σ r) ∧ Ta σ r < r ∧ Tr σ r < r ∧ (σ.2.2.1 20 r).toInt = Ta σ r ∧ (σ.2.2.1 21 r).toInt = Tr σ r := by
  have := h.tb r h1 h2
  unfold TB at this
  refine ⟨⟨h1, h2, rfl, rfl⟩, ?_, ?_, ?_, ?_⟩ <;> ((try unfold Ta) <;> (try unfold Tr) <;> omega)
theorem step_call {A : Nat → Nat → Int32} {tk gv : Nat → Nat} {N C R root c T : Nat} {σ : mSt} (h : SI A tk gv N C R root σ (c + 1) T) (hk : (A 5 (en σ c)).toInt = 10) (hf : σ.1 34 = 0) {n : Nat} (hn : 12 ≤ n) : S_Mo_checkStep n σ ∧ StepOk A tk gv N root σ (c + 1) T (F_Mo_checkStep n σ) := by
  have st := h.start
  have hci := h.ci
  have arr := hci.arr
  have hT3 := hci.tok.lo
  have hT5 := hci.tok.hi
  have nd := h.ok.nd _ st.hn
  have hk5 : σ.2.2.1 5 (en σ c) = 10 := by rw [arr 5 (by omega) (by omega)]; ((try (simp only [vp_in, Int32.toNatClampNeg, Int32.lt_iff_toInt_lt, Int32.le_iff_toInt_le, ← Int32.toInt_inj, Int32.toInt_add, Int32.toInt_sub, Int32.toInt_mul, Int32.reduceToInt, i32_neg1, Nat.reducePow, Int.reducePow, ne_eq, ge_iff_le, gt_iff_lt] at *)) <;> (first | omega | ((simp (disch := omega) only [bm32] at *) <;> omega)))
  have hK : K σ (en σ c) = 10 := by unfold K; rw [hk5]; rfl
  simp only [S_Mo_checkStep, F_Mo_checkStep, st.t, st.nn, mbind_eq]
  generalize mo_ai σ 27 c (σ.2.2.1 27 c + 1) = σ1 at st ⊢
  have md := st.md
  have e5 : σ1.2.2.1 5 (en σ c) = 10 := by rw [st.a1 5 (by decide)]; exact hk5
  have q9 := partN (N := N) nd.pa (nd.ha (by omega))
  have q10 := partN (N := N) nd.pb (nd.hb (by omega))
  rw [arr 9 (by omega) (by omega)] at q9
  rw [arr 10 (by omega) (by omega)] at q10
  have hs := hci.st c (by omega)
  have pp : parts A (en σ c) = [(A 9 (en σ c)).toInt.toNat, (A 10 (en σ c)).toInt.toNat] := parts4 (by omega)
  rw [pp] at hs
  simp only [List.length_cons, List.length_nil] at hs
  have k4 : ¬ (10 : Int32) = 4 := by decide
  have k5 : ¬ (10 : Int32) = 5 := by decide
  have k6 : ¬ (10 : Int32) = 6 := by decide
  have k7 : ¬ (10 : Int32) = 7 := by decide
  have k8 : ¬ (10 : Int32) = 8 := by decide
  have k9 : ¬ (10 : Int32) = 9 := by decide
  simp only [e5, if_neg k4, if_neg k5, if_neg k6, if_neg k7, if_neg k8, if_neg k9, if_true]
  have v := st.vt
  have vn := st.vn
  have ht' := st.t
  have hnn := st.nn
  have a9 : σ1.2.2.1 9 (en σ c) = A 9 (en σ c) := by rw [st.a1 9 (by decide), arr 9 (by omega) (by omega)]
  have a10 : σ1.2.2.1 10 (en σ c) = A 10 (en σ c) := by rw [st.a1 10 (by decide), arr 10 (by omega) (by omega)]
  simp only [S_Mo_checkCall, F_Mo_checkCall, ht', hnn, mbind_eq]
  by_cases s0 : σ.2.2.1 27 c = 0
  · simp only [if_pos s0]
    have es0 : es σ c = 0 := by unfold es; rw [s0]; rfl
    have r := Mid.into (tk := tk) (gv := gv) h.tab hci md hn (x := σ1.2.2.1 9 (en σ c)) (m := (A 9 (en σ c)).toInt.toNat) (by rw [a9]; exact q9) (fun _ => ⟨by rw [pp, es0]; rfl, by rw [es0]; exact .cal1 hk, Nat.le_refl _⟩)
    exact ⟨⟨v, v, v, v, vn, ⟨vn, r.1, trivial⟩, trivial⟩, r.2⟩
  simp only [if_neg s0]
  obtain hw | ⟨g, m, t, w, ty, ft, ht⟩ := hci.top c rfl
  · exact absurd hw (by unfold es; intro hh; apply s0; ((try (simp only [vp_in, Int32.toNatClampNeg, Int32.lt_iff_toInt_lt, Int32.le_iff_toInt_le, ← Int32.toInt_inj, Int32.toInt_add, Int32.toInt_sub, Int32.toInt_mul, Int32.reduceToInt, i32_neg1, Nat.reducePow, Int.reducePow, ne_eq, ge_iff_le, gt_iff_lt] at *)) <;> (first | omega | ((simp (disch := omega) only [bm32] at *) <;> omega))))
  have e32 : σ1.1 32 = σ.1 32 := by rw [st.f1]
  by_cases s1 : σ.2.2.1 27 c = 1
  · simp only [if_pos s1]
    have es1 : es σ c = 1 := by unfold es; rw [s1]; rfl
    rw [es1] at w
    have wl : g = row σ c ∧ m = (A 9 (en σ c)).toInt.toNat := by
      generalize hS : (1 : Nat) = s at w
      cases w using Wj.cs <;> first | (exact ⟨rfl, rfl⟩) | omega
    obtain ⟨rfl, rfl⟩ := wl
    have fin : ∀ σ2 : mSt, Mid A σ σ2 c T T → (σ2.1 34 = 0 → 3 ≤ t) → σ2.1 32 = σ.1 32 → σ2.2.2.1 10 (en σ c) = A 10 (en σ c) → S_Mo_checkCall_j42 n σ2 (σ.1 31 - 1) (σ.2.2.1 26 c) ∧ StepOk A tk gv N root σ (c + 1) T (F_Mo_checkCall_j42 n σ2 (σ.1 31 - 1) (σ.2.2.1 26 c)) := by
      intro σ2 m2 hg h32 h10
      simp only [S_Mo_checkCall_j42, F_Mo_checkCall_j42, hnn, ht', mbind_eq]
      have m3 := (m2.set28 (x := σ2.1 32) (by rw [h32, ft]; omega)).set29 (i := c) (x := (mo_ai σ2 28 c (σ2.1 32)).1 33)
      have e1 : (mo_ai (mo_ai σ2 28 c (σ2.1 32)) 29 c ((mo_ai σ2 28 c (σ2.1 32)).1 33)).2.2.1 10 (en σ c) = A 10 (en σ c) := by rw [ai_3, if_neg (by omega), ai_3, if_neg (by omega)]; exact h10
      have ect : ec (mo_ai (mo_ai σ2 28 c (σ2.1 32)) 29 c ((mo_ai σ2 28 c (σ2.1 32)).1 33)) c = t := by
        unfold ec; rw [ai_3, if_neg (by omega), ai_3, if_pos ⟨rfl, rfl⟩, h32]; omega
      have r := Mid.into (tk := tk) (gv := gv) h.tab hci m3 hn (x := A 10 (en σ c)) (m := (A 10 (en σ c)).toInt.toNat) q10 (fun hz => ⟨by rw [pp, es1]; rfl, by
        rw [es1, ect]; exact .cal2 hk (ty.mono (m3.fr.facts (Nat.le_refl _))) (facts_fn m3.tok (hg hz) ht).1, Nat.le_refl _⟩)
      rw [e1]
      exact ⟨⟨v, v, vn, r.1, trivial⟩, r.2⟩
    rw [e32]
    by_cases z : 3 ≤ σ.1 32
    · simp only [if_pos z]
      have r := fin σ1 md (fun _ => by ((try (simp only [vp_in, Int32.toNatClampNeg, Int32.lt_iff_toInt_lt, Int32.le_iff_toInt_le, ← Int32.toInt_inj, Int32.toInt_add, Int32.toInt_sub, Int32.toInt_mul, Int32.reduceToInt, i32_neg1, Nat.reducePow, Int.reducePow, ne_eq, ge_iff_le, gt_iff_lt] at *)) <;> (first | omega | ((simp (disch := omega) only [bm32] at *) <;> omega)))) e32 a10
      exact ⟨⟨v, v, v, v, vn, r.1, trivial⟩, r.2⟩
    · simp only [if_neg z]
      obtain ⟨w1, w2⟩ := md.wrong (x := 6) (y := σ1.2.2.1 9 (en σ c)) (by decide)
      have ww := wrong_ok (σ := σ1) (x := 6) (y := σ1.2.2.1 9 (en σ c)) (by decide)
      have r := fin _ w1 (fun hz => absurd hz w2) (by rw [ww.2.2.1 32 (by decide) (by decide), e32]) (by rw [ww.2.2.2]; exact a10)
      exact ⟨⟨v, v, v, v, vn, ⟨vn, ww.1, r.1⟩, trivial⟩, r.2⟩
  · simp only [if_neg s1]
    have es2 : es σ c = 2 := by unfold es; ((try (simp only [vp_in, Int32.toNatClampNeg, Int32.lt_iff_toInt_lt, Int32.le_iff_toInt_le, ← Int32.toInt_inj, Int32.toInt_add, Int32.toInt_sub, Int32.toInt_mul, Int32.reduceToInt, i32_neg1, Nat.reducePow, Int.reducePow, ne_eq, ge_iff_le, gt_iff_lt] at *)) <;> (first | omega | ((simp (disch := omega) only [bm32] at *) <;> omega)))
    rw [es2] at w
    have hct := hci.ct c (by omega)
    have wl : (∃ a r, Ty A (facts σ T) tk gv (row σ c) (A 9 (en σ c)).toInt.toNat (ec σ c) ∧ (facts σ T).fn (ec σ c) a r) ∧ g = row σ c ∧ m = (A 10 (en σ c)).toInt.toNat := by
      generalize hS : (2 : Nat) = s at w
      generalize hE : ec σ c = e at w
      cases w using Wj.cs <;> first | (exact ⟨⟨_, _, by assumption, by assumption⟩, rfl, rfl⟩) | omega
    obtain ⟨⟨a, r0, ty1, fn1⟩, rfl, rfl⟩ := wl
    obtain ⟨f1, f2, _, _⟩ := fn1
    have fb := facts_fn hci.tok f1 f2
    have e28 : σ1.2.2.1 28 c = σ.2.2.1 28 c := by rw [st.a1 28 (by decide)]
    have e20 : σ1.2.2.1 20 = σ.2.2.1 20 := st.a1 20 (by decide)
    have e23 : σ1.2.2.1 23 = σ.2.2.1 23 := st.a1 23 (by decide)
    have hfe : (σ.2.2.1 28 c).toNatClampNeg = ec σ c := rfl
    have vf : vp_in (σ.2.2.1 28 c) 520 := by unfold ec at f2; ((try (simp only [vp_in, Int32.toNatClampNeg, Int32.lt_iff_toInt_lt, Int32.le_iff_toInt_le, ← Int32.toInt_inj, Int32.toInt_add, Int32.toInt_sub, Int32.toInt_mul, Int32.reduceToInt, i32_neg1, Nat.reducePow, Int.reducePow, ne_eq, ge_iff_le, gt_iff_lt] at *)) <;> (first | omega | ((simp (disch := omega) only [bm32] at *) <;> omega)))
    have ix := ix520 (x := σ.1 32) (y := σ.2.2.1 20 (ec σ c)) (by omega) (by omega)
    rw [e28, e20, e23, e32, hfe, ix.1]
    have hta : (σ.2.2.1 20 (ec σ c)).toInt.toNat = Ta σ (ec σ c) := rfl
    have htt : (σ.1 32).toInt.toNat = t := by omega
    rw [hta, htt]
    have fin : ∀ σ2 : mSt, Mid A σ σ2 c T T → (σ2.1 34 = 0 → Fit σ t (Ta σ (ec σ c))) → σ2.2.2.1 21 = σ.2.2.1 21 → S_Mo_checkCall_j119 n σ2 (σ.1 31 - 1) (σ.2.2.1 28 c) ∧ StepOk A tk gv N root σ (c + 1) T (F_Mo_checkCall_j119 n σ2 (σ.1 31 - 1) (σ.2.2.1 28 c)) := by
      intro σ2 m2 hg h21
      simp only [S_Mo_checkCall_j119, F_Mo_checkCall_j119, ht', hfe, mbind_eq, h21]
      have r := Mid.ends (tk := tk) (gv := gv) (r := σ2.2.2.1 29 c ||| σ2.1 33 ||| σ2.2.2.1 22 (ec σ c)) h.tab hci m2 (x := σ.2.2.1 21 (ec σ c)) (fun hz => ⟨Tr σ (ec σ c), by omega, by omega, (Ty.cal hk ty1 fb.1 ty ⟨ht, by omega, hg hz⟩).mono (m2.fr.facts (Nat.le_refl _)), Nat.le_add_right _ _⟩)
      exact ⟨⟨vf, v, vf, r.1, trivial⟩, r.2⟩
    by_cases z : σ.2.2.1 23 (520 * t + Ta σ (ec σ c)) = 0
    · simp only [if_pos z]
      obtain ⟨w1, w2⟩ := md.wrong (x := 6) (y := σ1.2.2.1 10 (en σ c)) (by decide)
      have ww := wrong_ok (σ := σ1) (x := 6) (y := σ1.2.2.1 10 (en σ c)) (by decide)
      have r := fin _ w1 (fun hz => absurd hz w2) (by rw [ww.2.2.2]; exact st.a1 21 (by decide))
      exact ⟨⟨v, v, v, v, vn, ⟨v, vf, ix.2, vn, ww.1, r.1⟩, trivial⟩, r.2⟩
    · simp only [if_neg z]
      have r := fin σ1 md (fun _ => z) (st.a1 21 (by decide))
      exact ⟨⟨v, v, v, v, vn, ⟨v, vf, ix.2, r.1⟩, trivial⟩, r.2⟩
end
