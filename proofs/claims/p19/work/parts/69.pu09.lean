-- pure rows: AN AO
section
/-! pure rows: the machine's state in order -/
def FunOk (X : Cx) (S : Sto) (nd : Int32) (see : Nat → Int64) (τ : Nat) : Prop := ∃ (n : Nat) (g : Nat → Int), nd.toInt = n ∧ Good X n ∧ SeeOk X.P S see g ∧
  (((X.A 5 n).toInt = 7 ∧ ∃ a t : Nat, (X.A 7 n).toInt = a ∧ Ty X.A X.P X.tk X.gv (env g (X.A 6 n).toInt.toNat a) (X.A 9 n).toInt.toNat t ∧ X.P.fn τ a t) ∨
   ((X.A 5 n).toInt = 5 ∧ ∃ a r t : Nat, X.P.fn τ a r ∧ Ty X.A X.P X.tk X.gv (env (env g (X.A 6 n).toInt.toNat τ) (X.A 7 n).toInt.toNat a) (X.A 9 n).toInt.toNat t ∧ X.P.fit t r))
theorem FunOk.mono {X : Cx} {S S' : Sto} (hS : S.le S') {nd : Int32} {see : Nat → Int64} {τ : Nat} (h : FunOk X S nd see τ) : FunOk X S' nd see τ := by
  obtain ⟨n, g, a, b, c, d⟩ := h
  exact ⟨n, g, a, b, c.mono hS, d⟩
def Heap (X : Cx) (S : Sto) (σ : mSt) (K q : Nat) : Prop := ((σ.1 56).toInt = S.nf) ∧ ((σ.1 61).toInt = S.nk) ∧ ((σ.1 62).toInt = K) ∧ (K ≤ 41 * q) ∧ ((S.nf : Int) + S.nk + q ≤ (σ.1 48).toInt ∧ (σ.1 48).toInt ≤ 1000) ∧ (∀ i, i < S.nf → FunOk X S (σ.2.2.1 54 i) (seen (σ.2.2.2 55) (10 * i)) (S.ft i)) ∧ (∀ k, k < S.nk → ∃ (f m a u c w : Nat) (d : Int), (σ.2.2.1 57 k).toInt = f ∧ (σ.2.2.1 58 k).toInt = m ∧ (σ.2.2.1 59 k).toInt = c ∧ f + m ≤ K ∧ 1 ≤ m ∧ ctd X.A (kfr σ f).node = 1 ∧ X.P.fn (S.kt k) a u ∧ Seg X S (kfr σ) f m a u c d w)
theorem Heap.fn {X : Cx} {S : Sto} {σ : mSt} {K q : Nat} (self : Heap X S σ K q) : (σ.1 56).toInt = S.nf := self.1
theorem Heap.co {X : Cx} {S : Sto} {σ : mSt} {K q : Nat} (self : Heap X S σ K q) : (σ.1 61).toInt = S.nk := self.2.1
theorem Heap.ke {X : Cx} {S : Sto} {σ : mSt} {K q : Nat} (self : Heap X S σ K q) : (σ.1 62).toInt = K := self.2.2.1
theorem Heap.hk {X : Cx} {S : Sto} {σ : mSt} {K q : Nat} (self : Heap X S σ K q) : K ≤ 41 * q := self.2.2.2.1
theorem Heap.th {X : Cx} {S : Sto} {σ : mSt} {K q : Nat} (self : Heap X S σ K q) : (S.nf : Int) + S.nk + q ≤ (σ.1 48).toInt ∧ (σ.1 48).toInt ≤ 1000 := self.2.2.2.2.1
theorem Heap.fo {X : Cx} {S : Sto} {σ : mSt} {K q : Nat} (self : Heap X S σ K q) : ∀ i, i < S.nf → FunOk X S (σ.2.2.1 54 i) (seen (σ.2.2.2 55) (10 * i)) (S.ft i) := self.2.2.2.2.2.1
theorem Heap.ko {X : Cx} {S : Sto} {σ : mSt} {K q : Nat} (self : Heap X S σ K q) : ∀ k, k < S.nk → ∃ (f m a u c w : Nat) (d : Int), (σ.2.2.1 57 k).toInt = f ∧ (σ.2.2.1 58 k).toInt = m ∧ (σ.2.2.1 59 k).toInt = c ∧ f + m ≤ K ∧ 1 ≤ m ∧ ctd X.A (kfr σ f).node = 1 ∧ X.P.fn (S.kt k) a u ∧ Seg X S (kfr σ) f m a u c d w := self.2.2.2.2.2.2
theorem Heap.congr {X : Cx} {S : Sto} {σ σ' : mSt} {K q : Nat} (h : Heap X S σ K q) (f : ∀ k, k = 56 ∨ k = 61 ∨ k = 62 → σ'.1 k = σ.1 k) (th : (σ.1 48).toInt ≤ (σ'.1 48).toInt ∧ (σ'.1 48).toInt ≤ 1000) (a : ∀ k, k = 54 ∨ k = 57 ∨ k = 58 ∨ k = 59 ∨ k = 63 ∨ k = 64 → σ'.2.2.1 k = σ.2.2.1 k) (al : ∀ k, k = 55 ∨ k = 65 ∨ k = 66 → σ'.2.2.2 k = σ.2.2.2 k) : Heap X S σ' K q := by
  have ek := kfr_of (σ := σ) (σ' := σ') (fun k hk => a k (by omega)) (fun k hk => al k (by omega))
  refine ⟨by rw [f 56 (by omega)]; exact h.fn, by rw [f 61 (by omega)]; exact h.co, by rw [f 62 (by omega)]; exact h.ke, h.hk, by have := h.th; omega, fun i hi => ?_, fun k hk => ?_⟩
  · rw [a 54 (by omega), al 55 (by omega)]; exact h.fo i hi
  · rw [a 57 (by omega), a 58 (by omega), a 59 (by omega), ek]; exact h.ko k hk
def bnd (X : Cx) (k : Nat) : Nat := if k ≤ 15 then X.N else X.C
/-- the nodes and clauses that the program is of are as they were -/
def Arr (X : Cx) (σ : mSt) : Prop := ∀ k, 5 ≤ k → k ≤ 19 → ∀ i, i < bnd X k → σ.2.2.1 k i = X.A k i
theorem Arr.congr {X : Cx} {σ σ' : mSt} (h : Arr X σ) (e : ∀ k, 5 ≤ k → k ≤ 19 → σ'.2.2.1 k = σ.2.2.1 k) : Arr X σ' := fun k h1 h2 i hi => by rw [e k h1 h2]; exact h k h1 h2 i hi
def RunJ (X : Cx) (S : Sto) (σ : mSt) (K q F c w t u : Nat) (d : Int) : Prop := (Arr X σ) ∧ (Heap X S σ K q) ∧ ((σ.1 44).toInt = F) ∧ ((σ.1 49).toInt = c) ∧ (c ≤ 400) ∧ (Seg X S (frm σ) 0 F t u c d w)
theorem RunJ.arr {X : Cx} {S : Sto} {σ : mSt} {K q F c w t u : Nat} {d : Int} (self : RunJ X S σ K q F c w t u d) : Arr X σ := self.1
theorem RunJ.hp {X : Cx} {S : Sto} {σ : mSt} {K q F c w t u : Nat} {d : Int} (self : RunJ X S σ K q F c w t u d) : Heap X S σ K q := self.2.1
theorem RunJ.f44 {X : Cx} {S : Sto} {σ : mSt} {K q F c w t u : Nat} {d : Int} (self : RunJ X S σ K q F c w t u d) : (σ.1 44).toInt = F := self.2.2.1
theorem RunJ.f49 {X : Cx} {S : Sto} {σ : mSt} {K q F c w t u : Nat} {d : Int} (self : RunJ X S σ K q F c w t u d) : (σ.1 49).toInt = c := self.2.2.2.1
theorem RunJ.c400 {X : Cx} {S : Sto} {σ : mSt} {K q F c w t u : Nat} {d : Int} (self : RunJ X S σ K q F c w t u d) : c ≤ 400 := self.2.2.2.2.1
theorem RunJ.seg {X : Cx} {S : Sto} {σ : mSt} {K q F c w t u : Nat} {d : Int} (self : RunJ X S σ K q F c w t u d) : Seg X S (frm σ) 0 F t u c d w := self.2.2.2.2.2
theorem RunJ.F {X : Cx} (hX : X.Ok) {S : Sto} {σ : mSt} {K q F c w t u : Nat} {d : Int} (h : RunJ X S σ K q F c w t u d) : F ≤ 16440 := by
  have := h.seg.bound hX
  have := h.c400
  omega
/-- what is worked now -/
def Now (X : Cx) (S : Sto) (σ : mSt) (t : Nat) (d : Int) (n : Nat) : Prop := ((σ.1 45).toInt = n) ∧ (Good X n) ∧ ((X.A 13 n).toInt < d) ∧ (∃ g, Ty X.A X.P X.tk X.gv g n t ∧ SeeOk X.P S (nsee σ) g)
theorem Now.f45 {X : Cx} {S : Sto} {σ : mSt} {t : Nat} {d : Int} {n : Nat} (self : Now X S σ t d n) : (σ.1 45).toInt = n := self.1
theorem Now.good {X : Cx} {S : Sto} {σ : mSt} {t : Nat} {d : Int} {n : Nat} (self : Now X S σ t d n) : Good X n := self.2.1
theorem Now.dp {X : Cx} {S : Sto} {σ : mSt} {t : Nat} {d : Int} {n : Nat} (self : Now X S σ t d n) : (X.A 13 n).toInt < d := self.2.2.1
theorem Now.ty {X : Cx} {S : Sto} {σ : mSt} {t : Nat} {d : Int} {n : Nat} (self : Now X S σ t d n) : ∃ g, Ty X.A X.P X.tk X.gv g n t ∧ SeeOk X.P S (nsee σ) g := self.2.2.2
def RunOk (X : Cx) (σ : mSt) (M : Nat) : Prop := ∃ (S : Sto) (K q F c w t u : Nat) (d : Int), RunJ X S σ K q F c w t u d ∧ ((σ.1 51 ≠ 0 ∧ V X.P S σ.2.1 t ∧ M = w) ∨ (σ.1 51 = 0 ∧ ∃ n, Now X S σ t d n ∧ M = w + 3 * (X.A 12 n).toInt.toNat))
theorem RunOk.le {X : Cx} (hX : X.Ok) {σ : mSt} {M : Nat} (h : RunOk X σ M) : M ≤ 50000000 := by
  obtain ⟨S, K, q, F, c, w, t, u, d, r, g⟩ := h
  have h1 := r.F hX
  have h2 := r.seg.wle hX
  rcases g with ⟨_, _, rfl⟩ | ⟨_, n, g, rfl⟩
  · omega
  · have := g.good.2.1; omega
def RFr (σ σ' : mSt) : Prop := (∀ k, k < 44 → σ'.1 k = σ.1 k) ∧ (∀ k, k < 40 → σ'.2.2.1 k = σ.2.2.1 k)
theorem RFr.f {σ σ' : mSt} (self : RFr σ σ') : ∀ k, k < 44 → σ'.1 k = σ.1 k := self.1
theorem RFr.a {σ σ' : mSt} (self : RFr σ σ') : ∀ k, k < 40 → σ'.2.2.1 k = σ.2.2.1 k := self.2
theorem RFr.rfl' {σ : mSt} : RFr σ σ := ⟨fun _ _ => rfl, fun _ _ => rfl⟩
theorem RFr.trans {a b c : mSt} (h : RFr a b) (g : RFr b c) : RFr a c := ⟨fun k hk => (g.f k hk).trans (h.f k hk), fun k hk => (g.a k hk).trans (h.a k hk)⟩
theorem RFr.si {σ σ' : mSt} {k : Nat} {x : Int32} (h : RFr σ σ') (hk : 44 ≤ k) : RFr σ (mo_si σ' k x) := ⟨fun j hj => by rw [si_1, if_neg (by omega)]; exact h.f j hj, fun j hj => by rw [si_2]; exact h.a j hj⟩
theorem RFr.sl {σ σ' : mSt} {x : Int64} (h : RFr σ σ') : RFr σ (mo_sl σ' x) := ⟨h.f, h.a⟩
theorem RFr.al {σ σ' : mSt} {k i : Nat} {x : Int64} (h : RFr σ σ') : RFr σ (mo_al σ' k i x) := ⟨h.f, h.a⟩
theorem RFr.ai {σ σ' : mSt} {k i : Nat} {x : Int32} (h : RFr σ σ') (hk : 40 ≤ k) : RFr σ (mo_ai σ' k i x) := ⟨h.f, fun j hj => by funext i; rw [ai_3, if_neg (by omega)]; rw [h.a j hj]⟩
theorem RFr.cp {σ σ' : mSt} {a b c d e : Nat} (h : RFr σ σ') : RFr σ (cp σ' a b c d e) := ⟨h.f, h.a⟩
/-- what a push leaves -/
def PushP (σ σ' : mSt) (F : Nat) (x : Int32) : Prop := (∀ k, k ≠ 44 → σ'.1 k = σ.1 k) ∧ ((σ'.1 44).toInt = F + 1) ∧ (σ'.2.1 = σ.2.1) ∧ (∀ k, k ≠ 40 → k ≠ 41 → σ'.2.2.1 k = σ.2.2.1 k) ∧ (∀ k, k ≠ 42 → k ≠ 43 → σ'.2.2.2 k = σ.2.2.2 k) ∧ (∀ i, frm σ' i = if i = F then ⟨x, 0, 0, nsee σ⟩ else frm σ i)
theorem PushP.f {σ σ' : mSt} {F : Nat} {x : Int32} (self : PushP σ σ' F x) : ∀ k, k ≠ 44 → σ'.1 k = σ.1 k := self.1
theorem PushP.f44 {σ σ' : mSt} {F : Nat} {x : Int32} (self : PushP σ σ' F x) : (σ'.1 44).toInt = F + 1 := self.2.1
theorem PushP.l {σ σ' : mSt} {F : Nat} {x : Int32} (self : PushP σ σ' F x) : σ'.2.1 = σ.2.1 := self.2.2.1
theorem PushP.a {σ σ' : mSt} {F : Nat} {x : Int32} (self : PushP σ σ' F x) : ∀ k, k ≠ 40 → k ≠ 41 → σ'.2.2.1 k = σ.2.2.1 k := self.2.2.2.1
theorem PushP.al {σ σ' : mSt} {F : Nat} {x : Int32} (self : PushP σ σ' F x) : ∀ k, k ≠ 42 → k ≠ 43 → σ'.2.2.2 k = σ.2.2.2 k := self.2.2.2.2.1
theorem PushP.fr {σ σ' : mSt} {F : Nat} {x : Int32} (self : PushP σ σ' F x) : ∀ i, frm σ' i = if i = F then ⟨x, 0, 0, nsee σ⟩ else frm σ i := self.2.2.2.2.2
theorem push_ok {σ : mSt} {F : Nat} (hF : F < 17000) (h44 : (σ.1 44).toInt = F) {x : Int32} {n : Nat} (hn : 12 ≤ n) : S_Mo_push n σ x ∧ PushP σ (F_Mo_push n σ x) F x := by
  have e1 : (σ.1 44).toNatClampNeg = F := by ((try (simp only [vp_in, Int32.toNatClampNeg, Int32.lt_iff_toInt_lt, Int32.le_iff_toInt_le, ← Int32.toInt_inj, Int32.toInt_add, Int32.toInt_sub, Int32.toInt_mul, Int32.reduceToInt, i32_neg1, Nat.reducePow, Int.reducePow, ne_eq, ge_iff_le, gt_iff_lt] at *)) <;> (first | omega | ((simp (disch := omega) only [bm32] at *) <;> omega)))
  have v1 : vp_in (σ.1 44) 17000 := by ((try (simp only [vp_in, Int32.toNatClampNeg, Int32.lt_iff_toInt_lt, Int32.le_iff_toInt_le, ← Int32.toInt_inj, Int32.toInt_add, Int32.toInt_sub, Int32.toInt_mul, Int32.reduceToInt, i32_neg1, Nat.reducePow, Int.reducePow, ne_eq, ge_iff_le, gt_iff_lt] at *)) <;> (first | omega | ((simp (disch := omega) only [bm32] at *) <;> omega)))
  have e4 : (σ.1 44 + 1).toInt = F + 1 := by ((try (simp only [vp_in, Int32.toNatClampNeg, Int32.lt_iff_toInt_lt, Int32.le_iff_toInt_le, ← Int32.toInt_inj, Int32.toInt_add, Int32.toInt_sub, Int32.toInt_mul, Int32.reduceToInt, i32_neg1, Nat.reducePow, Int.reducePow, ne_eq, ge_iff_le, gt_iff_lt] at *)) <;> (first | omega | ((simp (disch := omega) only [bm32] at *) <;> omega)))
  simp only [S_Mo_push, F_Mo_push, mbind_eq, ai_1, e1]
  obtain ⟨s, f⟩ := push_32_ok hF 10 n 0 (mo_al (mo_ai (mo_ai σ 40 F x) 41 F 0) 42 F 0) 0 h44 rfl (by omega) (by omega)
  rw [f]
  refine ⟨⟨v1, v1, v1, s, trivial⟩, fun k hk => by simp [si_1, si_2, sl_1, sl_2, sl_3, ai_1, ai_2, ai_3, ai_4, al_1, al_2, al_3, al_4, cp_1, cp_2, cp_3, cp_4, hk], by simp [si_1, si_2, sl_1, sl_2, sl_3, ai_1, ai_2, ai_3, ai_4, al_1, al_2, al_3, al_4, cp_1, cp_2, cp_3, cp_4, e4], rfl, fun k h1 h2 => by funext i; simp [si_1, si_2, sl_1, sl_2, sl_3, ai_1, ai_2, ai_3, ai_4, al_1, al_2, al_3, al_4, cp_1, cp_2, cp_3, cp_4, h1, h2], fun k h1 h2 => by funext i; simp [si_1, si_2, sl_1, sl_2, sl_3, ai_1, ai_2, ai_3, ai_4, al_1, al_2, al_3, al_4, cp_1, cp_2, cp_3, cp_4, h1, h2], fun i => ?_⟩
  by_cases hi : i = F
  · subst hi
    rw [if_pos rfl]
    unfold frm nsee
    simp only [si_2, cp_3, cp_4, al_3, al_4, ai_3, ai_4]
    simp only [show ¬ (40 = 41) by decide, false_and, if_false, and_self, if_true, show ¬ (42 = 43) by decide]
    congr 3
    apply seen_congr
    intro k hk
    simp only [cp_4, al_4, ai_4, true_and, show ¬ (53 = 42) by decide, false_and, if_false]
    rw [if_pos ⟨by omega, by omega⟩, show 10 * i + k - 10 * i = k by omega]
  · rw [if_neg hi]
    unfold frm
    simp only [si_2, cp_3, cp_4, al_3, al_4, ai_3, ai_4]
    simp only [show ¬ (40 = 41) by decide, false_and, if_false, hi, and_false, show ¬ (42 = 43) by decide]
    congr 3
    apply seen_congr
    intro k hk
    simp only [cp_4, al_4, ai_4, true_and, show ¬ (43 = 42) by decide, false_and, if_false]
    rw [if_neg (by omega)]
theorem seeAgain_ok {σ : mSt} {F : Nat} (hF : F < 17000) {x : Int32} (hx : x.toInt = F) {n : Nat} (hn : 12 ≤ n) : S_Mo_seeAgain n σ x ∧ F_Mo_seeAgain n σ x = cp σ 53 0 43 (10 * F) 0 := by
  obtain ⟨s, f⟩ := seeAgain_2_ok hF hx 10 n 0 σ 0 rfl (by omega) (by omega)
  simp only [S_Mo_seeAgain, F_Mo_seeAgain, mbind_eq]
  exact ⟨⟨s, trivial⟩, f⟩
theorem nsee_cp {σ : mSt} {F : Nat} : nsee (cp σ 53 0 43 (10 * F) 0) = (frm σ F).see := by
  unfold nsee frm
  apply seen_congr
  intro k hk
  simp only [cp_4, true_and]
  rw [if_pos ⟨by omega, by omega⟩]; simp [si_1, si_2, sl_1, sl_2, sl_3, ai_1, ai_2, ai_3, ai_4, al_1, al_2, al_3, al_4, cp_1, cp_2, cp_3, cp_4]
/-- what makes leaves -/
def MakesP (σ σ' : mSt) (F : Nat) (x : Int32) : Prop := (∀ k, k ≠ 48 → k ≠ 56 → σ'.1 k = σ.1 k) ∧ ((σ'.1 48).toInt = (σ.1 48).toInt + 1) ∧ ((σ'.1 56).toInt = F + 1) ∧ (σ'.2.1 = σ.2.1) ∧ (∀ k, k ≠ 54 → σ'.2.2.1 k = σ.2.2.1 k) ∧ (∀ i, σ'.2.2.1 54 i = if i = F then x else σ.2.2.1 54 i) ∧ (∀ k, k ≠ 55 → σ'.2.2.2 k = σ.2.2.2 k) ∧ (∀ i, seen (σ'.2.2.2 55) (10 * i) = if i = F then nsee σ else seen (σ.2.2.2 55) (10 * i))
theorem MakesP.f {σ σ' : mSt} {F : Nat} {x : Int32} (self : MakesP σ σ' F x) : ∀ k, k ≠ 48 → k ≠ 56 → σ'.1 k = σ.1 k := self.1
theorem MakesP.f48 {σ σ' : mSt} {F : Nat} {x : Int32} (self : MakesP σ σ' F x) : (σ'.1 48).toInt = (σ.1 48).toInt + 1 := self.2.1
theorem MakesP.f56 {σ σ' : mSt} {F : Nat} {x : Int32} (self : MakesP σ σ' F x) : (σ'.1 56).toInt = F + 1 := self.2.2.1
theorem MakesP.l {σ σ' : mSt} {F : Nat} {x : Int32} (self : MakesP σ σ' F x) : σ'.2.1 = σ.2.1 := self.2.2.2.1
theorem MakesP.a {σ σ' : mSt} {F : Nat} {x : Int32} (self : MakesP σ σ' F x) : ∀ k, k ≠ 54 → σ'.2.2.1 k = σ.2.2.1 k := self.2.2.2.2.1
theorem MakesP.a54 {σ σ' : mSt} {F : Nat} {x : Int32} (self : MakesP σ σ' F x) : ∀ i, σ'.2.2.1 54 i = if i = F then x else σ.2.2.1 54 i := self.2.2.2.2.2.1
theorem MakesP.al {σ σ' : mSt} {F : Nat} {x : Int32} (self : MakesP σ σ' F x) : ∀ k, k ≠ 55 → σ'.2.2.2 k = σ.2.2.2 k := self.2.2.2.2.2.2.1
theorem MakesP.fs {σ σ' : mSt} {F : Nat} {x : Int32} (self : MakesP σ σ' F x) : ∀ i, seen (σ'.2.2.2 55) (10 * i) = if i = F then nsee σ else seen (σ.2.2.2 55) (10 * i) := self.2.2.2.2.2.2.2
theorem makes_ok {σ : mSt} {F : Nat} (hF0 : (σ.1 48).toInt < 1000 → F < 1000) (h56 : (σ.1 56).toInt = F) (h48 : 0 ≤ (σ.1 48).toInt ∧ (σ.1 48).toInt ≤ 1000) {x : Int32} {n : Nat} (hn : 12 ≤ n) : S_Mo_makes n σ x ∧ ((σ.1 48 = 1000 ∧ F_Mo_makes n σ x = (0, mo_si σ 46 5)) ∨ (σ.1 48 ≠ 1000 ∧ (σ.1 48).toInt < 1000 ∧ (F_Mo_makes n σ x).1 = 1 ∧ MakesP σ (F_Mo_makes n σ x).2 F x)) := by
  by_cases h1000 : σ.1 48 = 1000
  · simp only [S_Mo_makes, F_Mo_makes, if_pos h1000]
    exact ⟨trivial, Or.inl ⟨h1000, trivial⟩⟩
  have lt : (σ.1 48).toInt < 1000 := by clear hF0; ((try (simp only [vp_in, Int32.toNatClampNeg, Int32.lt_iff_toInt_lt, Int32.le_iff_toInt_le, ← Int32.toInt_inj, Int32.toInt_add, Int32.toInt_sub, Int32.toInt_mul, Int32.reduceToInt, i32_neg1, Nat.reducePow, Int.reducePow, ne_eq, ge_iff_le, gt_iff_lt] at *)) <;> (first | omega | ((simp (disch := omega) only [bm32] at *) <;> omega)))
  have hF := hF0 lt
  clear hF0
  have e1 : (σ.1 56).toNatClampNeg = F := by ((try (simp only [vp_in, Int32.toNatClampNeg, Int32.lt_iff_toInt_lt, Int32.le_iff_toInt_le, ← Int32.toInt_inj, Int32.toInt_add, Int32.toInt_sub, Int32.toInt_mul, Int32.reduceToInt, i32_neg1, Nat.reducePow, Int.reducePow, ne_eq, ge_iff_le, gt_iff_lt] at *)) <;> (first | omega | ((simp (disch := omega) only [bm32] at *) <;> omega)))
  have v1 : vp_in (σ.1 56) 1000 := by ((try (simp only [vp_in, Int32.toNatClampNeg, Int32.lt_iff_toInt_lt, Int32.le_iff_toInt_le, ← Int32.toInt_inj, Int32.toInt_add, Int32.toInt_sub, Int32.toInt_mul, Int32.reduceToInt, i32_neg1, Nat.reducePow, Int.reducePow, ne_eq, ge_iff_le, gt_iff_lt] at *)) <;> (first | omega | ((simp (disch := omega) only [bm32] at *) <;> omega)))
  have e4 : (σ.1 56 + 1).toInt = F + 1 := by ((try (simp only [vp_in, Int32.toNatClampNeg, Int32.lt_iff_toInt_lt, Int32.le_iff_toInt_le, ← Int32.toInt_inj, Int32.toInt_add, Int32.toInt_sub, Int32.toInt_mul, Int32.reduceToInt, i32_neg1, Nat.reducePow, Int.reducePow, ne_eq, ge_iff_le, gt_iff_lt] at *)) <;> (first | omega | ((simp (disch := omega) only [bm32] at *) <;> omega)))
  have e5 : (σ.1 48 + 1).toInt = (σ.1 48).toInt + 1 := by ((try (simp only [vp_in, Int32.toNatClampNeg, Int32.lt_iff_toInt_lt, Int32.le_iff_toInt_le, ← Int32.toInt_inj, Int32.toInt_add, Int32.toInt_sub, Int32.toInt_mul, Int32.reduceToInt, i32_neg1, Nat.reducePow, Int.reducePow, ne_eq, ge_iff_le, gt_iff_lt] at *)) <;> (first | omega | ((simp (disch := omega) only [bm32] at *) <;> omega)))
  simp only [S_Mo_makes, F_Mo_makes, if_neg h1000, mbind_eq, si_1, show ¬ (56 = 48) by decide, if_false, e1]
  obtain ⟨s, f⟩ := makes_39_ok hF 10 n 0 (mo_ai (mo_si σ 48 (σ.1 48 + 1)) 54 F x) 0 (by simp [si_1, si_2, sl_1, sl_2, sl_3, ai_1, ai_2, ai_3, ai_4, al_1, al_2, al_3, al_4, cp_1, cp_2, cp_3, cp_4, h56]) rfl (by omega) (by omega)
  rw [f]
  refine ⟨⟨v1, s, trivial⟩, Or.inr ⟨h1000, lt, trivial, fun k hk hk2 => by simp [si_1, si_2, sl_1, sl_2, sl_3, ai_1, ai_2, ai_3, ai_4, al_1, al_2, al_3, al_4, cp_1, cp_2, cp_3, cp_4, hk, hk2], by simp [si_1, si_2, sl_1, sl_2, sl_3, ai_1, ai_2, ai_3, ai_4, al_1, al_2, al_3, al_4, cp_1, cp_2, cp_3, cp_4, e5], by simp [si_1, si_2, sl_1, sl_2, sl_3, ai_1, ai_2, ai_3, ai_4, al_1, al_2, al_3, al_4, cp_1, cp_2, cp_3, cp_4, e4], rfl, fun k h1 => by funext i; simp [si_1, si_2, sl_1, sl_2, sl_3, ai_1, ai_2, ai_3, ai_4, al_1, al_2, al_3, al_4, cp_1, cp_2, cp_3, cp_4, h1], fun i => by simp [si_1, si_2, sl_1, sl_2, sl_3, ai_1, ai_2, ai_3, ai_4, al_1, al_2, al_3, al_4, cp_1, cp_2, cp_3, cp_4], fun k h1 => by funext i; simp [si_1, si_2, sl_1, sl_2, sl_3, ai_1, ai_2, ai_3, ai_4, al_1, al_2, al_3, al_4, cp_1, cp_2, cp_3, cp_4, h1], fun i => ?_⟩⟩
  by_cases hi : i = F
  · subst hi
    rw [if_pos rfl]
    unfold nsee
    apply seen_congr
    intro k hk
    simp only [si_2, cp_4, ai_4, true_and]
    rw [if_pos ⟨by omega, by omega⟩, show 10 * i + k - 10 * i = k by omega]
  · rw [if_neg hi]
    apply seen_congr
    intro k hk
    simp only [si_2, cp_4, ai_4, true_and]
    rw [if_neg (by omega)]
theorem Seg.inv {X : Cx} {S : Sto} {get : Nat → Fr} {lo m t u c w : Nat} {d : Int} (h : Seg X S get lo (m + 1) t u c d w) : ∃ v c' d' w', Seg X S get lo m v u c' d' w' ∧ FrameOk X S (get (lo + m)) t v ∧ (ctd X.A (get (lo + m)).node = 1 ∨ dpt X.A (get (lo + m)).node < d') ∧ c = c' + ctd X.A (get (lo + m)).node ∧ d = dpt X.A (get (lo + m)).node ∧ w = w' + fw X.A (get (lo + m)) := by
  cases h using Seg.cs with
  | cons a b c => exact ⟨_, _, _, _, a, b, c, rfl, rfl, rfl⟩
theorem RunJ.congr {X : Cx} {S : Sto} {σ σ' : mSt} {K q F c w t u : Nat} {d : Int} (h : RunJ X S σ K q F c w t u d) (f : ∀ k, k = 44 ∨ k = 48 ∨ k = 49 ∨ k = 56 ∨ k = 61 ∨ k = 62 → σ'.1 k = σ.1 k) (a : ∀ k, k ≠ 60 → σ'.2.2.1 k = σ.2.2.1 k) (al : ∀ k, k ≠ 53 → σ'.2.2.2 k = σ.2.2.2 k) : RunJ X S σ' K q F c w t u d := by
  have th := h.hp.th
  refine ⟨h.arr.congr (fun k h1 h2 => a k (by omega)), h.hp.congr (fun k hk => f k (by omega)) (by rw [f 48 (by omega)]; omega) (fun k hk => a k (by omega)) (fun k hk => al k (by omega)), by rw [f 44 (by omega)]; exact h.f44, by rw [f 49 (by omega)]; exact h.f49, h.c400, ?_⟩
  rw [frm_of (σ := σ) (σ' := σ') (fun k hk => a k (by omega)) (fun k hk => al k (by omega))]
  exact h.seg
end
section
/-! pure rows: a node is worked -/
theorem kinds {x : Int32} (h : 0 ≤ x.toInt) (h2 : x.toInt ≤ 11) : x = 0 ∨ x = 1 ∨ x = 2 ∨ x = 3 ∨ x = 4 ∨ x = 5 ∨ x = 6 ∨ x = 7 ∨ x = 8 ∨ x = 9 ∨ x = 10 ∨ x = 11 := by
  ((try (simp only [vp_in, Int32.toNatClampNeg, Int32.lt_iff_toInt_lt, Int32.le_iff_toInt_le, ← Int32.toInt_inj, Int32.toInt_add, Int32.toInt_sub, Int32.toInt_mul, Int32.reduceToInt, i32_neg1, Nat.reducePow, Int.reducePow, ne_eq, ge_iff_le, gt_iff_lt] at *)) <;> (first | omega | ((simp (disch := omega) only [bm32] at *) <;> omega)))
theorem RunJ.to {X : Cx} {S : Sto} {σ σ' : mSt} {K q F c w t u F' c' w' t' u' : Nat} {d d' : Int} (h : RunJ X S σ K q F c w t u d) (a : ∀ k, k ≠ 40 → k ≠ 41 → k ≠ 60 → σ'.2.2.1 k = σ.2.2.1 k) (al : ∀ k, k ≠ 42 → k ≠ 43 → k ≠ 53 → σ'.2.2.2 k = σ.2.2.2 k) (f : ∀ k, k = 56 ∨ k = 61 ∨ k = 62 → σ'.1 k = σ.1 k) (th : (σ.1 48).toInt ≤ (σ'.1 48).toInt ∧ (σ'.1 48).toInt ≤ 1000) (f44 : (σ'.1 44).toInt = F') (f49 : (σ'.1 49).toInt = c') (c400 : c' ≤ 400) (seg : Seg X S (frm σ') 0 F' t' u' c' d' w') : RunJ X S σ' K q F' c' w' t' u' d' :=
  ⟨h.arr.congr (fun k h1 h2 => a k (by omega) (by omega) (by omega)), h.hp.congr f th (fun k hk => a k (by omega) (by omega) (by omega)) (fun k hk => al k (by omega) (by omega) (by omega)), f44, f49, c400, seg⟩
theorem Seg.push {X : Cx} {S : Sto} {get get' : Nat → Fr} {F v u c w t : Nat} {d : Int} (h : Seg X S get 0 F v u c d w) (e : ∀ i, i < F → get' i = get i) (f : FrameOk X S (get' F) t v) (k : ctd X.A (get' F).node = 1 ∨ dpt X.A (get' F).node < d) : Seg X S get' 0 (F + 1) t u (c + ctd X.A (get' F).node) (dpt X.A (get' F).node) (w + fw X.A (get' F)) := by
  have h' : Seg X S get' 0 F v u c d w := h.copy (fun i hi => by rw [Nat.zero_add]; exact e i hi)
  have := Seg.cons (t := t) h' (by rw [Nat.zero_add]; exact f) (by rw [Nat.zero_add]; exact k)
  rw [Nat.zero_add] at this
  exact this
theorem Ty.i3 {A : Nat → Nat → Int32} {P : Facts} {tk gv : Nat → Nat} {g : Nat → Int} {n t : Nat} (h : Ty A P tk gv g n t) (k : (A 5 n).toInt = 3) : g (A 6 n).toInt.toNat = t := by
  cases h using Ty.cs with
  | nam _ b => exact b
  | _ => omega
theorem Ty.i4 {A : Nat → Nat → Int32} {P : Facts} {tk gv : Nat → Nat} {g : Nat → Int} {n t : Nat} (h : Ty A P tk gv g n t) (k : (A 5 n).toInt = 4) : ∃ t0, Ty A P tk gv g (A 9 n).toInt.toNat t0 ∧ Ty A P tk gv (env g (A 6 n).toInt.toNat t0) (A 10 n).toInt.toNat t := by
  cases h using Ty.cs with
  | lett _ b c => exact ⟨_, b, c⟩
  | _ => omega
theorem Ty.i5 {A : Nat → Nat → Int32} {P : Facts} {tk gv : Nat → Nat} {g : Nat → Int} {n t : Nat} (h : Ty A P tk gv g n t) (k : (A 5 n).toInt = 5) : ∃ f a r t0 : Nat, (A 8 n).toInt = f ∧ P.fn f a r ∧ Ty A P tk gv (env (env g (A 6 n).toInt.toNat f) (A 7 n).toInt.toNat a) (A 9 n).toInt.toNat t0 ∧ P.fit t0 r ∧ Ty A P tk gv (env g (A 6 n).toInt.toNat f) (A 10 n).toInt.toNat t := by
  cases h using Ty.cs with
  | rek _ a b c d e => exact ⟨_, _, _, _, a, b, c, d, e⟩
  | _ => omega
theorem Ty.i6 {A : Nat → Nat → Int32} {P : Facts} {tk gv : Nat → Nat} {g : Nat → Int} {n t : Nat} (h : Ty A P tk gv g n t) (k : (A 5 n).toInt = 6) : Ty A P tk gv g (A 9 n).toInt.toNat 1 ∧ Ty A P tk gv g (A 10 n).toInt.toNat t ∧ Ty A P tk gv g (A 11 n).toInt.toNat t := by
  cases h using Ty.cs with
  | ite _ a b c => exact ⟨a, b, c⟩
  | _ => omega
theorem Ty.i7 {A : Nat → Nat → Int32} {P : Facts} {tk gv : Nat → Nat} {g : Nat → Int} {n r : Nat} (h : Ty A P tk gv g n r) (k : (A 5 n).toInt = 7) : ∃ a t : Nat, (A 7 n).toInt = a ∧ Ty A P tk gv (env g (A 6 n).toInt.toNat a) (A 9 n).toInt.toNat t ∧ P.fn r a t := by
  cases h using Ty.cs with
  | fn _ a b c => exact ⟨_, _, a, b, c⟩
  | _ => omega
theorem Ty.i8 {A : Nat → Nat → Int32} {P : Facts} {tk gv : Nat → Nat} {g : Nat → Int} {n u : Nat} (h : Ty A P tk gv g n u) (k : (A 5 n).toInt = 8) : ∃ (t : Nat) (ks us : Nat → Nat), Ty A P tk gv g (A 9 n).toInt.toNat t ∧ Ty A P tk gv (env g (A 6 n).toInt.toNat t) (A 10 n).toInt.toNat u ∧ (∀ q, (A 14 n).toInt.toNat ≤ q → q < (A 14 n).toInt.toNat + (A 15 n).toInt.toNat → P.fn (ks q) (gv (A 16 q).toInt.toNat) u ∧ Ty A P tk gv (env (env g (A 17 q).toInt.toNat (tk (A 16 q).toInt.toNat)) (A 18 q).toInt.toNat (ks q)) (A 19 q).toInt.toNat (us q) ∧ P.fit (us q) u) := by
  cases h using Ty.cs with
  | han ks us _ a b c d e => exact ⟨_, ks, us, a, b, fun q h1 h2 => ⟨c q h1 h2, d q h1 h2, e q h1 h2⟩⟩
  | _ => omega
theorem Ty.i9 {A : Nat → Nat → Int32} {P : Facts} {tk gv : Nat → Nat} {g : Nat → Int} {n t : Nat} (h : Ty A P tk gv g n t) (k : (A 5 n).toInt = 9) : Ty A P tk gv g (A 9 n).toInt.toNat 0 ∧ Ty A P tk gv g (A 10 n).toInt.toNat 0 ∧ t = if (A 6 n).toInt < 3 then 0 else 1 := by
  cases h using Ty.cs with
  | two _ a b => exact ⟨a, b, rfl⟩
  | _ => omega
theorem Ty.i10 {A : Nat → Nat → Int32} {P : Facts} {tk gv : Nat → Nat} {g : Nat → Int} {n r : Nat} (h : Ty A P tk gv g n r) (k : (A 5 n).toInt = 10) : ∃ f a t, Ty A P tk gv g (A 9 n).toInt.toNat f ∧ P.fn f a r ∧ Ty A P tk gv g (A 10 n).toInt.toNat t ∧ P.fit t a := by
  cases h using Ty.cs with
  | cal _ a b c d => exact ⟨_, _, _, a, b, c, d⟩
  | _ => omega
theorem Ty.i11 {A : Nat → Nat → Int32} {P : Facts} {tk gv : Nat → Nat} {g : Nat → Int} {n r : Nat} (h : Ty A P tk gv g n r) (k : (A 5 n).toInt = 11) : ∃ t, Ty A P tk gv g (A 9 n).toInt.toNat t ∧ P.fit t (tk (A 6 n).toInt.toNat) ∧ r = gv (A 6 n).toInt.toNat := by
  cases h using Ty.cs with
  | per _ a b => exact ⟨_, a, b, rfl⟩
  | _ => omega
/-- a step that takes no fuel -/
def StepR (X : Cx) (σ σ' : mSt) (M : Nat) : Prop := RFr σ σ' ∧ σ'.1 47 = σ.1 47 ∧ (σ'.1 46 = 1 → ∃ M', RunOk X σ' M' ∧ M' < M)
theorem sizes {X : Cx} (hX : X.Ok) {n : Nat} (h : Good X n) : 1 + ssum X.A (parts X.A n) ≤ (X.A 12 n).toInt.toNat := hX.tab.sum n h.1 (by have := h.2.1; omega)
theorem RunJ.gives {X : Cx} {S : Sto} {σ : mSt} {K q F c w t u : Nat} {d : Int} (r : RunJ X S σ K q F c w t u d) {v : Int64} (hv : V X.P S v t) : RunOk X (F_Mo_give σ v) w :=
  ⟨S, K, q, F, c, w, t, u, d, r.congr (fun k hk => by simp only [F_Mo_give, si_1, sl_1]; rw [if_neg (by omega)]) (fun _ _ => rfl) (fun _ _ => rfl), Or.inl ⟨by simp [si_1, si_2, sl_1, sl_2, sl_3, ai_1, ai_2, ai_3, ai_4, al_1, al_2, al_3, al_4, cp_1, cp_2, cp_3, cp_4, F_Mo_give], hv, rfl⟩⟩
theorem give_fr {σ : mSt} {v : Int64} : RFr σ (F_Mo_give σ v) ∧ (F_Mo_give σ v).1 47 = σ.1 47 := ⟨RFr.rfl'.sl.si (by omega), by simp [si_1, si_2, sl_1, sl_2, sl_3, ai_1, ai_2, ai_3, ai_4, al_1, al_2, al_3, al_4, cp_1, cp_2, cp_3, cp_4, F_Mo_give]⟩
theorem ctd_of {X : Cx} {x : Int32} {n : Nat} (hx : x.toInt = n) : ctd X.A x = (if (X.A 5 n).toInt = 8 then 1 else 0) ∧ dpt X.A x = (X.A 13 n).toInt ∧ x ≠ -1 ∧ x.toNatClampNeg = n ∧ x.toInt.toNat = n := by
  have h1 : x.toNatClampNeg = n := by show x.toInt.toNat = n; omega
  have h2 : x ≠ -1 := by intro h; rw [h] at hx; simp only [i32_neg1] at hx; omega
  refine ⟨?_, ?_, h2, h1, by omega⟩
  · unfold ctd; rw [if_neg h2, h1]
    by_cases h : X.A 5 n = 8
    · rw [if_pos h, if_pos (by rw [h]; rfl)]
    · rw [if_neg h, if_neg (by intro h'; apply h; ((try (simp only [vp_in, Int32.toNatClampNeg, Int32.lt_iff_toInt_lt, Int32.le_iff_toInt_le, ← Int32.toInt_inj, Int32.toInt_add, Int32.toInt_sub, Int32.toInt_mul, Int32.reduceToInt, i32_neg1, Nat.reducePow, Int.reducePow, ne_eq, ge_iff_le, gt_iff_lt] at *)) <;> (first | omega | ((simp (disch := omega) only [bm32] at *) <;> omega))))]
  · unfold dpt; rw [if_neg h2, h1]
/-- a node is pushed, and its first part is worked -/
theorem RunJ.goes {X : Cx} (hX : X.Ok) {S : Sto} {σ σ1 : mSt} {K q F c w t u : Nat} {d : Int} (r : RunJ X S σ K q F c w t u d) {nd : Nat} (nw : Now X S σ t d nd) {n : Nat} (hn : 12 ≤ n)
    (h4 : 4 ≤ (X.A 5 nd).toInt ∧ (X.A 5 nd).toInt ≠ 5 ∧ (X.A 5 nd).toInt ≠ 7) (σ1a : σ1.2 = σ.2) (σ1f : ∀ k, k ≠ 48 → k ≠ 49 → σ1.1 k = σ.1 k)
    (o : (σ1.1 48 = σ.1 48 ∧ σ1.1 49 = σ.1 49 ∧ (X.A 5 nd).toInt ≠ 8) ∨ ((σ1.1 48).toInt = (σ.1 48).toInt + 1 ∧ (σ1.1 48).toInt ≤ 1000 ∧ (σ1.1 49).toInt = (σ.1 49).toInt + 1 ∧ (σ1.1 49).toInt ≤ 400 ∧ (X.A 5 nd).toInt = 8))
    {t1 : Nat} {g : Nat → Int} (hg : SeeOk X.P S (nsee σ) g) (ht1 : Ty X.A X.P X.tk X.gv g (X.A 9 nd).toInt.toNat t1) (fok : FrameOk X S ⟨σ.1 45, 0, 0, nsee σ⟩ t1 t) :
    S_Mo_push n σ1 (σ.1 45) ∧ StepR X σ (F_Mo_work (F_Mo_push n σ1 (σ.1 45)) ((F_Mo_push n σ1 (σ.1 45)).2.2.1 9 nd)) (w + 3 * (X.A 12 nd).toInt.toNat) := by
  have hF := r.F hX
  have e45 := nw.f45
  obtain ⟨s, p⟩ := push_ok (σ := σ1) (F := F) (by omega) (by rw [σ1f 44 (by omega) (by omega)]; exact r.f44) (x := σ.1 45) hn
  generalize F_Mo_push n σ1 (σ.1 45) = σ2 at *
  obtain ⟨ct, dt, ne, en1, en2⟩ := ctd_of (X := X) e45
  have r9 : σ2.2.2.1 9 nd = X.A 9 nd := by rw [p.a 9 (by omega) (by omega), σ1a]; exact r.arr 9 (by omega) (by omega) nd nw.good.1
  rw [r9]
  have hp := nw.good.part hX (parts_a h4.1 (hX.kd nd nw.good.1).2)
  have hpa := hX.pa nd nw.good.1 h4.1
  have fr2 : frm σ1 = frm σ := by unfold frm; rw [σ1a]
  have ns : nsee σ1 = nsee σ := by unfold nsee; rw [σ1a]
  have frF : frm σ2 F = ⟨σ.1 45, 0, 0, nsee σ⟩ := by rw [p.fr F, if_pos rfl, ns]
  have sg := r.seg.push (get' := frm σ2) (fun i hi => by rw [p.fr i, if_neg (by omega), fr2]) (t := t1) (by rw [frF]; exact fok) (by
    rw [frF]; right; simp only [dt]; exact nw.dp)
  rw [frF] at sg
  simp only [ct, dt] at sg
  have r2 : RunJ X S σ2 K q (F + 1) _ _ t1 u _ := r.to (σ' := σ2) (fun k h1 h2 _ => by rw [p.a k h1 h2, σ1a]) (fun k h1 h2 _ => by rw [p.al k h1 h2, σ1a]) (fun k hk => by rw [p.f k (by omega), σ1f k (by omega) (by omega)]) (by
      rw [p.f 48 (by omega)]; have := r.hp.th; rcases o with ⟨o1, _⟩ | ⟨o1, o2, _⟩
      · rw [o1]; omega
      · omega) (by have := p.f44; omega) (by
      rw [p.f 49 (by omega)]
      have := r.f49
      rcases o with ⟨_, o2, o3⟩ | ⟨_, _, o2, _, o3⟩
      · rw [o2, if_neg o3]; omega
      · rw [if_pos o3]; omega) (by
      have := r.f49; have := r.c400
      rcases o with ⟨_, o2, o3⟩ | ⟨_, _, o2, o2', o3⟩
      · rw [if_neg o3]; omega
      · rw [if_pos o3]; omega) sg
  refine ⟨s, ⟨fun k hk => ?_, fun k hk => ?_⟩, ?_, fun _ => ?_⟩
  · simp only [F_Mo_work, si_1]; rw [if_neg (by omega), if_neg (by omega), p.f k (by omega), σ1f k (by omega) (by omega)]
  · simp only [F_Mo_work, si_2]; rw [p.a k (by omega) (by omega), σ1a]
  · simp only [F_Mo_work, si_1]; rw [if_neg (by omega), if_neg (by omega), p.f 47 (by omega), σ1f 47 (by omega) (by omega)]
  refine ⟨_, ⟨S, K, q, F + 1, _, _, t1, u, _, r2.congr (σ' := F_Mo_work σ2 (X.A 9 nd)) (fun k hk => by simp only [F_Mo_work, si_1]; rw [if_neg (by omega), if_neg (by omega)]) (fun _ _ => rfl) (fun _ _ => rfl), Or.inr ⟨by simp [si_1, si_2, sl_1, sl_2, sl_3, ai_1, ai_2, ai_3, ai_4, al_1, al_2, al_3, al_4, cp_1, cp_2, cp_3, cp_4, F_Mo_work], (X.A 9 nd).toInt.toNat, ⟨by rw [show (F_Mo_work σ2 (X.A 9 nd)).1 45 = X.A 9 nd by simp [si_1, si_2, sl_1, sl_2, sl_3, ai_1, ai_2, ai_3, ai_4, al_1, al_2, al_3, al_4, cp_1, cp_2, cp_3, cp_4, F_Mo_work]]; omega, hp.1, ?_, g, ht1, ?_⟩, rfl⟩⟩, ?_⟩
  · exact hp.2.1
  · have : nsee (F_Mo_work σ2 (X.A 9 nd)) = nsee σ := by
      unfold nsee; simp only [F_Mo_work, si_2]; rw [p.al 53 (by omega) (by omega), σ1a]
    rw [this]; exact hg
  · have sz := sizes hX nw.good
    have hk11 := (hX.kd nd nw.good.1).2
    unfold fw
    simp only [if_neg ne, en2]
    by_cases h6 : (X.A 5 nd).toInt = 6
    · rw [if_pos h6]
      unfold parts at sz
      rw [if_neg (by omega), if_neg (by omega), if_pos h6] at sz
      simp only [ssum] at sz
      unfold sz3; omega
    rw [if_neg h6]
    by_cases h11 : (X.A 5 nd).toInt = 11
    · rw [if_pos h11]
      unfold parts at sz
      rw [if_neg (by omega), if_pos (by omega)] at sz
      simp only [ssum] at sz
      omega
    rw [if_neg h11, if_neg (by simp [si_1, si_2, sl_1, sl_2, sl_3, ai_1, ai_2, ai_3, ai_4, al_1, al_2, al_3, al_4, cp_1, cp_2, cp_3, cp_4])]
    by_cases h8 : (X.A 5 nd).toInt = 8
    · unfold parts at sz
      rw [if_neg (by omega), if_neg (by omega), if_neg (by omega), if_pos h8] at sz
      simp only [ssum] at sz
      unfold sz3; omega
    · unfold parts at sz
      rw [if_neg (by omega), if_neg (by omega), if_neg (by omega), if_neg (by omega)] at sz
      simp only [ssum] at sz
      unfold sz3; omega

theorem RunJ.makes {X : Cx} {S : Sto} {σ σ' : mSt} {K q F c w t u : Nat} {d : Int} (r : RunJ X S σ K q F c w t u d) (h48 : (σ.1 48).toInt < 1000) {x : Int32} {τ : Nat} (p : MakesP σ σ' S.nf x) (fo : FunOk X S x (nsee σ) τ) : ∃ S', S.le S' ∧ S'.nf = S.nf + 1 ∧ S'.ft S.nf = τ ∧ RunJ X S' σ' K q F c w t u d := by
  refine ⟨⟨S.nf + 1, S.nk, fun i => if i = S.nf then τ else S.ft i, S.kt⟩, ?_⟩
  have hS : S.le ⟨S.nf + 1, S.nk, fun i => if i = S.nf then τ else S.ft i, S.kt⟩ := ⟨Nat.le_succ _, Nat.le_refl _, fun i hi => by show (if i = S.nf then τ else S.ft i) = _; rw [if_neg (by omega)], fun i hi => rfl⟩
  have hp := r.hp
  refine ⟨hS, rfl, if_pos rfl, r.arr.congr (fun k h1 h2 => p.a k (by omega)), ⟨by have := p.f56; simp only [Sto.nf_mk]; omega, by rw [p.f 61 (by omega) (by omega)]; exact hp.co, by rw [p.f 62 (by omega) (by omega)]; exact hp.ke, hp.hk, by have := hp.th; have := p.f48; simp only [Sto.nf_mk, Sto.nk_mk]; omega, fun i hi => ?_, fun k hk => ?_⟩, by rw [p.f 44 (by omega) (by omega)]; exact r.f44, by rw [p.f 49 (by omega) (by omega)]; exact r.f49, r.c400, ?_⟩
  · rw [p.a54 i, p.fs i]
    by_cases h : i = S.nf
    · simp only [Sto.ft_mk, if_pos h]; exact fo.mono hS
    · simp only [Sto.ft_mk, if_neg h]; simp only [Sto.nf_mk] at hi; exact (hp.fo i (by omega)).mono hS
  · obtain ⟨f, m, a, u, c, w, d, h1, h2, h3, h4, h5, h6, h7, h8⟩ := hp.ko k hk
    have ek := kfr_of (σ := σ) (σ' := σ') (fun k hk => p.a k (by omega)) (fun k hk => p.al k (by omega))
    exact ⟨f, m, a, u, c, w, d, by rw [p.a 57 (by omega)]; exact h1, by rw [p.a 58 (by omega)]; exact h2, by rw [p.a 59 (by omega)]; exact h3, h4, h5, by rw [ek]; exact h6, h7, by rw [ek]; exact h8.mono hS⟩
  · rw [frm_of (σ := σ) (σ' := σ') (fun k hk => p.a k (by omega)) (fun k hk => p.al k (by omega))]
    exact r.seg.mono hS
theorem nsee_al {σ : mSt} {y : Nat} {v : Int64} (hy : y < 10) : nsee (mo_al σ 53 y v) y = v ∧ ∀ k, k < 10 → k ≠ y → nsee (mo_al σ 53 y v) k = nsee σ k := by
  unfold nsee seen
  constructor
  · rw [if_pos hy]; simp [si_1, si_2, sl_1, sl_2, sl_3, ai_1, ai_2, ai_3, ai_4, al_1, al_2, al_3, al_4, cp_1, cp_2, cp_3, cp_4]
  · intro k hk hne; rw [if_pos hk, if_pos hk]; simp [si_1, si_2, sl_1, sl_2, sl_3, ai_1, ai_2, ai_3, ai_4, al_1, al_2, al_3, al_4, cp_1, cp_2, cp_3, cp_4, hne]
theorem workNode_ok {X : Cx} (hX : X.Ok) {S : Sto} {σ : mSt} {K q F c w t u : Nat} {d : Int} (r : RunJ X S σ K q F c w t u d) {nd : Nat} (nw : Now X S σ t d nd) {n : Nat} (hn : 12 ≤ n) : S_Mo_workNode n σ ∧ StepR X σ (F_Mo_workNode n σ) (w + 3 * (X.A 12 nd).toInt.toNat) := by
  obtain ⟨ct, dt, ne, en1, en2⟩ := ctd_of (X := X) nw.f45
  have hN := hX.hN
  have hnd := nw.good.1
  have v45 : vp_in (σ.1 45) 200 := by have := nw.f45; ((try (simp only [vp_in, Int32.toNatClampNeg, Int32.lt_iff_toInt_lt, Int32.le_iff_toInt_le, ← Int32.toInt_inj, Int32.toInt_add, Int32.toInt_sub, Int32.toInt_mul, Int32.reduceToInt, i32_neg1, Nat.reducePow, Int.reducePow, ne_eq, ge_iff_le, gt_iff_lt] at *)) <;> (first | omega | ((simp (disch := omega) only [bm32] at *) <;> omega)))
  obtain ⟨g, hty, hsee⟩ := nw.ty
  have e5 : σ.2.2.1 5 nd = X.A 5 nd := r.arr 5 (by omega) (by omega) nd hnd
  have e6 : σ.2.2.1 6 nd = X.A 6 nd := r.arr 6 (by omega) (by omega) nd hnd
  have hsz := sizes hX nw.good
  have th := r.hp.th
  have fn := r.hp.fn
  -- an atom, or a function: the rest is pushed
  rcases kinds (hX.kd nd hnd).1 (hX.kd nd hnd).2 with hk | hk | hk | hk | hk | hk | hk | hk | hk | hk | hk | hk <;>
    simp (decide := true) only [S_Mo_workNode, F_Mo_workNode, en1, e5, e6, hk, if_true, if_false, mbind_eq, S_Mo_give, S_Mo_work, true_and, and_true]
  · have h3 : Ty X.A X.P X.tk X.gv g nd t := hty
    have ht : t = 0 := by
      cases h3 using Ty.cs with
      | num _ => rfl
      | _ => (have : (X.A 5 nd).toInt = 0 := by rw [hk]; rfl); omega
    exact ⟨⟨v45, v45⟩, give_fr.1, give_fr.2, fun _ => ⟨w, r.gives (V.lo (by omega)), by omega⟩⟩
  · have h3 : Ty X.A X.P X.tk X.gv g nd t := hty
    have ht : t = 1 := by
      cases h3 using Ty.cs with
      | tru _ => rfl
      | _ => (have : (X.A 5 nd).toInt = 1 := by rw [hk]; rfl); omega
    exact ⟨⟨v45, v45⟩, give_fr.1, give_fr.2, fun _ => ⟨w, r.gives (V.lo (by omega)), by omega⟩⟩
  · have h3 : Ty X.A X.P X.tk X.gv g nd t := hty
    have ht : t = 2 := by
      cases h3 using Ty.cs with
      | uni _ => rfl
      | _ => (have : (X.A 5 nd).toInt = 2 := by rw [hk]; rfl); omega
    exact ⟨v45, give_fr.1, give_fr.2, fun _ => ⟨w, r.gives (V.lo (by omega)), by omega⟩⟩
  · have k3 : (X.A 5 nd).toInt = 3 := by rw [hk]; rfl
    have nm := hX.nm nd hnd (by omega)
    have h3 := hty.i3 k3
    have v6 : vp_in (X.A 6 nd) 10 := by clear r nw hX hty hsz; ((try (simp only [vp_in, Int32.toNatClampNeg, Int32.lt_iff_toInt_lt, Int32.le_iff_toInt_le, ← Int32.toInt_inj, Int32.toInt_add, Int32.toInt_sub, Int32.toInt_mul, Int32.reduceToInt, i32_neg1, Nat.reducePow, Int.reducePow, ne_eq, ge_iff_le, gt_iff_lt] at *)) <;> (first | omega | ((simp (disch := omega) only [bm32] at *) <;> omega)))
    refine ⟨⟨v45, v45, v6⟩, give_fr.1, give_fr.2, fun _ => ⟨w, r.gives ?_, by omega⟩⟩
    have := hsee (X.A 6 nd).toInt.toNat (by omega) t h3
    unfold nsee seen at this
    rw [if_pos (by omega), Nat.zero_add] at this
    exact this
  · have k4 : (X.A 5 nd).toInt = 4 := by rw [hk]; rfl
    obtain ⟨t0, h1, h2⟩ := hty.i4 k4
    obtain ⟨s, st⟩ := r.goes hX (σ1 := σ) nw hn (by omega) rfl (fun _ _ _ => rfl) (Or.inl ⟨rfl, rfl, by omega⟩) hsee h1 (.lett nd g t0 t nw.f45 nw.good k4 hsee .rfl' h2 .rfl')
    exact ⟨⟨v45, s, v45⟩, st⟩
  · have k5 : (X.A 5 nd).toInt = 5 := by rw [hk]; rfl
    have nm := hX.nm nd hnd (by omega)
    have v6 : vp_in (X.A 6 nd) 10 := by clear r nw hX hty hsz; ((try (simp only [vp_in, Int32.toNatClampNeg, Int32.lt_iff_toInt_lt, Int32.le_iff_toInt_le, ← Int32.toInt_inj, Int32.toInt_add, Int32.toInt_sub, Int32.toInt_mul, Int32.reduceToInt, i32_neg1, Nat.reducePow, Int.reducePow, ne_eq, ge_iff_le, gt_iff_lt] at *)) <;> (first | omega | ((simp (disch := omega) only [bm32] at *) <;> omega)))
    obtain ⟨f, a, rr, t0, h8, hf, hb, hfit, hrest⟩ := hty.i5 k5
    have hp := nw.good.part hX (parts_b (by omega))
    have hpb := hX.pb nd hnd (by omega)
    obtain ⟨sm, o⟩ := makes_ok (σ := σ) (F := S.nf) (by omega) fn (by omega) (x := σ.1 45) hn
    rcases o with ⟨o1, o2⟩ | ⟨o1, o2, o3, p⟩
    · rw [o2]
      simp only [if_true]
      refine ⟨⟨v45, sm, trivial⟩, RFr.rfl'.si (by omega), by simp [si_1, si_2, sl_1, sl_2, sl_3, ai_1, ai_2, ai_3, ai_4, al_1, al_2, al_3, al_4, cp_1, cp_2, cp_3, cp_4], fun h => ?_⟩
      simp [si_1, si_2, sl_1, sl_2, sl_3, ai_1, ai_2, ai_3, ai_4, al_1, al_2, al_3, al_4, cp_1, cp_2, cp_3, cp_4] at h
    · generalize F_Mo_makes n σ (σ.1 45) = w2 at *
      simp (decide := true) only [o3, if_false]
      obtain ⟨S', hS, hnf, hft, r'⟩ := r.makes o2 p (τ := f) ⟨nd, g, nw.f45, nw.good, hsee, Or.inr ⟨k5, a, rr, t0, hf, hb, hfit⟩⟩
      have r6 : w2.2.2.2.1 6 nd = X.A 6 nd := by rw [p.a 6 (by omega)]; exact e6
      have r10 : w2.2.2.2.1 10 nd = X.A 10 nd := by rw [p.a 10 (by omega)]; exact r.arr 10 (by omega) (by omega) nd hnd
      have y6 : (X.A 6 nd).toNatClampNeg = (X.A 6 nd).toInt.toNat := rfl
      simp only [r6, ai_3, al_3, r10, y6]
      refine ⟨⟨v45, sm, v45, v6, v45⟩, ⟨fun k hk => ?_, fun k hk => ?_⟩, ?_, fun _ => ?_⟩
      · simp only [F_Mo_work, si_1, al_1]; rw [if_neg (by omega), if_neg (by omega), p.f k (by omega) (by omega)]
      · simp only [F_Mo_work, si_2, al_3]; rw [p.a k (by omega)]
      · simp only [F_Mo_work, si_1, al_1]; rw [if_neg (by omega), if_neg (by omega), p.f 47 (by omega) (by omega)]
      · refine ⟨_, ⟨S', K, q, F, c, w, t, u, d, r'.congr (fun k hk => by simp only [F_Mo_work, si_1, al_1]; rw [if_neg (by omega), if_neg (by omega)]) (fun k _ => rfl) (fun k hk => by funext i; simp only [F_Mo_work, si_2, al_4]; rw [if_neg (by omega)]), Or.inr ⟨by simp [si_1, si_2, sl_1, sl_2, sl_3, ai_1, ai_2, ai_3, ai_4, al_1, al_2, al_3, al_4, cp_1, cp_2, cp_3, cp_4, F_Mo_work], (X.A 10 nd).toInt.toNat, ⟨?_, hp.1, by have := nw.dp; omega, _, hrest, ?_⟩, rfl⟩⟩, ?_⟩
        · rw [show ∀ σ0 : mSt, (F_Mo_work σ0 (X.A 10 nd)).1 45 = X.A 10 nd by intro σ0; simp [si_1, si_2, sl_1, sl_2, sl_3, ai_1, ai_2, ai_3, ai_4, al_1, al_2, al_3, al_4, cp_1, cp_2, cp_3, cp_4, F_Mo_work]]; omega
        · have e := nsee_al (σ := w2.2) (y := (X.A 6 nd).toInt.toNat) (v := (w2.2.1 56 - 1).toInt64) (by omega)
          show SeeOk X.P S' (nsee (mo_al w2.2 53 (X.A 6 nd).toInt.toNat (w2.2.1 56 - 1).toInt64)) _
          have e0 : nsee w2.2 = nsee σ := by unfold nsee; rw [p.al 53 (by omega)]
          refine (hsee.mono hS).xenv ?_ (fun k hk hne => by rw [e.2 k hk hne, e0])
          rw [e.1]
          intro _
          have i1 : (w2.2.1 56 - 1).toInt = S.nf := by have := p.f56; clear r r' p nw hX hty hsz hb hrest hS; ((try (simp only [vp_in, Int32.toNatClampNeg, Int32.lt_iff_toInt_lt, Int32.le_iff_toInt_le, ← Int32.toInt_inj, Int32.toInt_add, Int32.toInt_sub, Int32.toInt_mul, Int32.reduceToInt, i32_neg1, Nat.reducePow, Int.reducePow, ne_eq, ge_iff_le, gt_iff_lt] at *)) <;> (first | omega | ((simp (disch := omega) only [bm32] at *) <;> omega)))
          have i2 : (w2.2.1 56 - 1).toInt64.toInt = S.nf := by rw [Int32.toInt_toInt64]; exact i1
          left
          rw [i2]
          refine ⟨by omega, by omega, ?_⟩
          rw [Int.toNat_natCast, hft]; exact .rfl'
        · have : parts X.A nd = [(X.A 9 nd).toInt.toNat, (X.A 10 nd).toInt.toNat] := parts4 (by omega)
          rw [this] at hsz
          simp only [ssum] at hsz
          omega
  · have k6 : (X.A 5 nd).toInt = 6 := by rw [hk]; rfl
    obtain ⟨h1, h2, h3⟩ := hty.i6 k6
    obtain ⟨s, st⟩ := r.goes hX (σ1 := σ) nw hn (by omega) rfl (fun _ _ _ => rfl) (Or.inl ⟨rfl, rfl, by omega⟩) hsee h1 (.ite nd g t nw.f45 nw.good k6 hsee h2 h3 .rfl')
    exact ⟨⟨v45, s, v45⟩, st⟩
  · have k7 : (X.A 5 nd).toInt = 7 := by rw [hk]; rfl
    obtain ⟨a, t0, h7, hb, hf⟩ := hty.i7 k7
    obtain ⟨sm, o⟩ := makes_ok (σ := σ) (F := S.nf) (by omega) fn (by omega) (x := σ.1 45) hn
    rcases o with ⟨o1, o2⟩ | ⟨o1, o2, o3, p⟩
    · rw [o2]
      simp only [if_true]
      refine ⟨⟨v45, sm, trivial⟩, RFr.rfl'.si (by omega), by simp [si_1, si_2, sl_1, sl_2, sl_3, ai_1, ai_2, ai_3, ai_4, al_1, al_2, al_3, al_4, cp_1, cp_2, cp_3, cp_4], fun h => ?_⟩
      simp [si_1, si_2, sl_1, sl_2, sl_3, ai_1, ai_2, ai_3, ai_4, al_1, al_2, al_3, al_4, cp_1, cp_2, cp_3, cp_4] at h
    · generalize F_Mo_makes n σ (σ.1 45) = w2 at *
      simp (decide := true) only [o3, if_false]
      obtain ⟨S', hS, hnf, hft, r'⟩ := r.makes o2 p (τ := t) ⟨nd, g, nw.f45, nw.good, hsee, Or.inl ⟨k7, a, t0, h7, hb, hf⟩⟩
      refine ⟨⟨v45, sm, trivial⟩, ⟨fun k hk => ?_, fun k hk => ?_⟩, ?_, fun _ => ⟨w, r'.gives ?_, by omega⟩⟩
      · simp only [F_Mo_give, si_1, sl_1]; rw [if_neg (by omega), p.f k (by omega) (by omega)]
      · simp only [F_Mo_give, si_2, sl_3]; rw [p.a k (by omega)]
      · simp only [F_Mo_give, si_1, sl_1]; rw [if_neg (by omega), p.f 47 (by omega) (by omega)]
      · intro _
        have i1 : (w2.2.1 56 - 1).toInt = S.nf := by have := p.f56; clear r r' p nw hX hty hsz hb hS; ((try (simp only [vp_in, Int32.toNatClampNeg, Int32.lt_iff_toInt_lt, Int32.le_iff_toInt_le, ← Int32.toInt_inj, Int32.toInt_add, Int32.toInt_sub, Int32.toInt_mul, Int32.reduceToInt, i32_neg1, Nat.reducePow, Int.reducePow, ne_eq, ge_iff_le, gt_iff_lt] at *)) <;> (first | omega | ((simp (disch := omega) only [bm32] at *) <;> omega)))
        have i2 : (w2.2.1 56 - 1).toInt64.toInt = S.nf := by rw [Int32.toInt_toInt64]; exact i1
        left
        rw [i2]
        refine ⟨by omega, by omega, ?_⟩
        rw [Int.toNat_natCast, hft]; exact .rfl'
  · have k8 : (X.A 5 nd).toInt = 8 := by rw [hk]; rfl
    obtain ⟨t0, ks, us, h1, h2, h3⟩ := hty.i8 k8
    have j181 : S_Mo_workNode_j181 n σ ∧ StepR X σ (F_Mo_workNode_j181 n σ) (w + 3 * (X.A 12 nd).toInt.toNat) := by
      simp only [S_Mo_workNode_j181, F_Mo_workNode_j181]
      split
      · exact ⟨trivial, RFr.rfl'.si (by omega), by simp [si_1, si_2, sl_1, sl_2, sl_3, ai_1, ai_2, ai_3, ai_4, al_1, al_2, al_3, al_4, cp_1, cp_2, cp_3, cp_4], fun h => by simp [si_1, si_2, sl_1, sl_2, sl_3, ai_1, ai_2, ai_3, ai_4, al_1, al_2, al_3, al_4, cp_1, cp_2, cp_3, cp_4] at h⟩
      · exact ⟨trivial, RFr.rfl'.si (by omega), by simp [si_1, si_2, sl_1, sl_2, sl_3, ai_1, ai_2, ai_3, ai_4, al_1, al_2, al_3, al_4, cp_1, cp_2, cp_3, cp_4], fun h => by simp [si_1, si_2, sl_1, sl_2, sl_3, ai_1, ai_2, ai_3, ai_4, al_1, al_2, al_3, al_4, cp_1, cp_2, cp_3, cp_4] at h⟩
    by_cases h1000 : σ.1 48 = 1000
    · simp only [if_pos h1000]; exact ⟨⟨v45, j181.1⟩, j181.2⟩
    simp only [if_neg h1000]
    by_cases h400 : σ.1 49 = 400
    · simp only [if_pos h400]; exact ⟨⟨v45, j181.1⟩, j181.2⟩
    simp (decide := true) only [if_neg h400, si_1, if_false]
    have f49 := r.f49
    have c400 := r.c400
    have i1 : (σ.1 48 + 1).toInt = (σ.1 48).toInt + 1 ∧ (σ.1 48 + 1).toInt ≤ 1000 := by clear r nw hX hty hsz h1 h2 h3 j181; constructor <;> ((try (simp only [vp_in, Int32.toNatClampNeg, Int32.lt_iff_toInt_lt, Int32.le_iff_toInt_le, ← Int32.toInt_inj, Int32.toInt_add, Int32.toInt_sub, Int32.toInt_mul, Int32.reduceToInt, i32_neg1, Nat.reducePow, Int.reducePow, ne_eq, ge_iff_le, gt_iff_lt] at *)) <;> (first | omega | ((simp (disch := omega) only [bm32] at *) <;> omega)))
    have i2 : (σ.1 49 + 1).toInt = (σ.1 49).toInt + 1 ∧ (σ.1 49 + 1).toInt ≤ 400 := by clear r nw hX hty hsz h1 h2 h3 j181; constructor <;> ((try (simp only [vp_in, Int32.toNatClampNeg, Int32.lt_iff_toInt_lt, Int32.le_iff_toInt_le, ← Int32.toInt_inj, Int32.toInt_add, Int32.toInt_sub, Int32.toInt_mul, Int32.reduceToInt, i32_neg1, Nat.reducePow, Int.reducePow, ne_eq, ge_iff_le, gt_iff_lt] at *)) <;> (first | omega | ((simp (disch := omega) only [bm32] at *) <;> omega)))
    obtain ⟨s, st⟩ := r.goes hX (σ1 := mo_si (mo_si σ 48 (σ.1 48 + 1)) 49 (σ.1 49 + 1)) nw hn (by omega) rfl (fun k h1 h2 => by simp [si_1, si_2, sl_1, sl_2, sl_3, ai_1, ai_2, ai_3, ai_4, al_1, al_2, al_3, al_4, cp_1, cp_2, cp_3, cp_4, h1, h2]) (Or.inr ⟨by simp [si_1, si_2, sl_1, sl_2, sl_3, ai_1, ai_2, ai_3, ai_4, al_1, al_2, al_3, al_4, cp_1, cp_2, cp_3, cp_4, i1.1], by have := i1.2; simpa [si_1, si_2, sl_1, sl_2, sl_3, ai_1, ai_2, ai_3, ai_4, al_1, al_2, al_3, al_4, cp_1, cp_2, cp_3, cp_4] using this, by simp [si_1, si_2, sl_1, sl_2, sl_3, ai_1, ai_2, ai_3, ai_4, al_1, al_2, al_3, al_4, cp_1, cp_2, cp_3, cp_4, i2.1], by have := i2.2; simpa [si_1, si_2, sl_1, sl_2, sl_3, ai_1, ai_2, ai_3, ai_4, al_1, al_2, al_3, al_4, cp_1, cp_2, cp_3, cp_4] using this, k8⟩) hsee h1 (.han nd g t0 t ks us nw.f45 nw.good k8 hsee .rfl' h2 h3 .rfl')
    exact ⟨⟨v45, s, v45⟩, st⟩
  · have k9 : (X.A 5 nd).toInt = 9 := by rw [hk]; rfl
    obtain ⟨h1, h2, h3⟩ := hty.i9 k9
    obtain ⟨s, st⟩ := r.goes hX (σ1 := σ) nw hn (by omega) rfl (fun _ _ _ => rfl) (Or.inl ⟨rfl, rfl, by omega⟩) hsee h1 (.two0 nd g nw.f45 nw.good k9 rfl hsee h2 (by rw [h3]; exact .rfl'))
    exact ⟨⟨v45, s, v45⟩, st⟩
  · have k10 : (X.A 5 nd).toInt = 10 := by rw [hk]; rfl
    obtain ⟨f, a, t2, h1, h2, h3, h4⟩ := hty.i10 k10
    obtain ⟨s, st⟩ := r.goes hX (σ1 := σ) nw hn (by omega) rfl (fun _ _ _ => rfl) (Or.inl ⟨rfl, rfl, by omega⟩) hsee h1 (.cal0 nd g f a t t2 nw.f45 nw.good k10 rfl hsee .rfl' h2 h3 h4 .rfl')
    exact ⟨⟨v45, s, v45⟩, st⟩
  · have k11 : (X.A 5 nd).toInt = 11 := by rw [hk]; rfl
    obtain ⟨t2, h1, h2, h3⟩ := hty.i11 k11
    obtain ⟨s, st⟩ := r.goes hX (σ1 := σ) nw hn (by omega) rfl (fun _ _ _ => rfl) (Or.inl ⟨rfl, rfl, by omega⟩) hsee h1 (.per nd nw.f45 nw.good k11 (.of h2) (by rw [h3]; exact .rfl'))
    exact ⟨⟨v45, s, v45⟩, st⟩
end
