-- pure rows: AV BA BB BC
section
/-! pure rows: the reference's state in order, kept by every call -/
def MoI (σ : mSt) (N C R T : Nat) : Prop := (TOk σ T) ∧ (T ≤ 63) ∧ (NOk σ N C R T) ∧ (EOk σ T) ∧ (Mach σ N C)
theorem MoI.tok {σ : mSt} {N C R T : Nat} (self : MoI σ N C R T) : TOk σ T := self.1
theorem MoI.t63 {σ : mSt} {N C R T : Nat} (self : MoI σ N C R T) : T ≤ 63 := self.2.1
theorem MoI.nok {σ : mSt} {N C R T : Nat} (self : MoI σ N C R T) : NOk σ N C R T := self.2.2.1
theorem MoI.eok {σ : mSt} {N C R T : Nat} (self : MoI σ N C R T) : EOk σ T := self.2.2.2.1
theorem MoI.mach {σ : mSt} {N C R T : Nat} (self : MoI σ N C R T) : Mach σ N C := self.2.2.2.2
theorem RunOk.congr {X : Cx} {σ σ' : mSt} {M : Nat} (h : RunOk X σ M) (f : ∀ k, 44 ≤ k → σ'.1 k = σ.1 k) (l : σ'.2.1 = σ.2.1) (arr : Arr X σ → Arr X σ') (a : ∀ k, 40 ≤ k → σ'.2.2.1 k = σ.2.2.1 k) (al : σ'.2.2.2 = σ.2.2.2) : RunOk X σ' M := by
  obtain ⟨S, K, q, F, c, w, t, u, d, r, o⟩ := h
  have th := r.hp.th
  have ef : frm σ' = frm σ := frm_of (fun k hk => a k (by omega)) (fun k _ => by rw [al])
  have en : nsee σ' = nsee σ := by unfold nsee; rw [al]
  refine ⟨S, K, q, F, c, w, t, u, d, ⟨arr r.arr, r.hp.congr (fun k hk => f k (by omega)) (by rw [f 48 (by omega)]; omega) (fun k hk => a k (by omega)) (fun k _ => by rw [al]), by rw [f 44 (by omega)]; exact r.f44, by rw [f 49 (by omega)]; exact r.f49, r.c400, by rw [ef]; exact r.seg⟩, ?_⟩
  rw [f 51 (by omega), l]
  rcases o with ⟨o1, o2, o3⟩ | ⟨o1, nd, nw, o3⟩
  · exact Or.inl ⟨o1, o2, o3⟩
  · exact Or.inr ⟨o1, nd, ⟨by rw [f 45 (by omega)]; exact nw.f45, nw.good, nw.dp, by rw [en]; exact nw.ty⟩, o3⟩
/-- the machine's part, where only the tables have grown -/
theorem Mach.tell {σ σ' : mSt} {N C R T N' C' : Nat} (h : Mach σ N C) (ok : NOk σ N C R T) (hN : N ≤ N') (hC : C ≤ C') (f : ∀ k, 36 ≤ k → σ'.1 k = σ.1 k) (l : σ'.2.1 = σ.2.1) (nd : ∀ k i, 5 ≤ k → k ≤ 15 → i < N → σ'.2.2.1 k i = σ.2.2.1 k i) (cl : ∀ k j, 16 ≤ k → k ≤ 19 → j < C → σ'.2.2.1 k j = σ.2.2.1 k j) (a : ∀ k, 40 ≤ k → σ'.2.2.1 k = σ.2.2.1 k) (al : σ'.2.2.2 = σ.2.2.2) : Mach σ' N' C' := by
  obtain ⟨h1, h2⟩ := h
  have tab := TabOk.of ok
  constructor
  · rw [f 36 (by omega)]
    rcases h1 with h1 | ⟨p, e, g1, g2, g3, P, tk, gv, t, g4, g5⟩
    · exact Or.inl h1
    · refine Or.inr ⟨p, e, by omega, by rw [nd 12 p (by omega) (by omega) g1]; exact g2, by rw [nd 13 p (by omega) (by omega) g1]; exact g3, P, tk, gv, t, g4, ?_⟩
      exact g5.tell (N := N) (C := C) (fun n hn p hp => (tab.part n hn p hp).1) (fun n hn h8 => by have c1 := (ok.nd n hn).cf h8; have c2 := (ok.nd n hn).cm; omega) nd cl g1
  · intro h46
    obtain ⟨X, M, x1, x2, x3, x4⟩ := h2 (by rw [← f 46 (by omega)]; exact h46)
    refine ⟨X, M, x1, by omega, by omega, x4.congr (fun k hk => f k (by omega)) l (fun arr k h1 h2 i hi => ?_) a al⟩
    rw [← arr k h1 h2 i hi]
    by_cases hk : k ≤ 15
    · unfold bnd at hi; rw [if_pos hk] at hi; exact nd k i h1 hk (by omega)
    · unfold bnd at hi; rw [if_neg hk] at hi; exact cl k i (by omega) h2 (by omega)
theorem MoI.si4 {σ : mSt} {N C R T : Nat} (h : MoI σ N C R T) (z : Int32) : MoI (mo_si σ 4 z) N C R T :=
  ⟨h.tok.si4, h.t63, h.nok.si (by omega), h.eok, h.mach.tell h.nok (Nat.le_refl _) (Nat.le_refl _) (fun k hk => by rw [si_1, if_neg (by omega)]) rfl (fun _ _ _ _ _ => rfl) (fun _ _ _ _ _ => rfl) (fun _ _ => rfl) rfl⟩
theorem MoI.told {σ : mSt} {N C R T : Nat} (h : MoI σ N C R T) {good : Prop} {w : Int32 × mSt} (t : Told σ N C R T good w) : ∃ N', MoI w.2 N' C R T := by
  obtain ⟨t1, t2, t3⟩ := t
  by_cases g : good
  · by_cases hN : N = 200
    · rw [t2 g hN]; exact ⟨N, h.si4 2⟩
    · have := h.nok.hn
      obtain ⟨_, _, ok, tl, e24, e25⟩ := t3 g (by omega)
      refine ⟨N + 1, h.tok.congr (tl.f 3 (by omega)) (fun k h1 h2 => tl.a k (by omega) (by omega) (by omega)), h.t63, ok, h.eok.congr (Nat.le_refl _) (fun k h1 h2 => ?_), h.mach.tell h.nok (by omega) (Nat.le_refl _) (fun k hk => tl.f k (by omega)) tl.l tl.nd tl.cl (fun k hk => tl.a k (by omega) (by omega) (by omega)) tl.ll⟩
      have : k = 24 ∨ k = 25 := by omega
      rcases this with rfl | rfl
      · exact e24
      · exact e25
  · rw [t1 g]; exact ⟨N, h.si4 1⟩
theorem MoI.claused {σ : mSt} {N C R T : Nat} (h : MoI σ N C R T) {good : Prop} {w : Int32 × mSt} (t : Claused σ N C R T good w) : ∃ C' R', MoI w.2 N C' R' T := by
  obtain ⟨t1, t2, t3⟩ := t
  by_cases g : good
  · by_cases hC : C = 40
    · rw [t2 g hC]; exact ⟨C, R, h.si4 2⟩
    · have := h.nok.hc
      obtain ⟨_, _, ok, tl, e24, e25⟩ := t3 g (by omega)
      refine ⟨C + 1, R + 1, h.tok.congr (tl.f 3 (by omega)) (fun k h1 h2 => tl.a k (by omega) (by omega) (by omega)), h.t63, ok, h.eok.congr (Nat.le_refl _) (fun k h1 h2 => ?_), h.mach.tell h.nok (Nat.le_refl _) (by omega) (fun k hk => tl.f k (by omega)) tl.l tl.nd tl.cl (fun k hk => tl.a k (by omega) (by omega) (by omega)) tl.ll⟩
      have : k = 24 ∨ k = 25 := by omega
      rcases this with rfl | rfl
      · exact e24
      · exact e25
  · rw [t1 g]; exact ⟨C, R, h.si4 1⟩
theorem MoI.handled {σ : mSt} {N C R T : Nat} (h : MoI σ N C R T) {good : Prop} {w : Int32 × mSt} (t : Handled σ N C R T good w) : ∃ N' R', MoI w.2 N' C R' T := by
  obtain ⟨t1, t2, t3⟩ := t
  by_cases g : good
  · by_cases hN : N = 200
    · rw [t2 g hN]; exact ⟨N, R, h.si4 2⟩
    · have := h.nok.hn
      obtain ⟨_, _, ok, tl, e24, e25⟩ := t3 g (by omega)
      refine ⟨N + 1, 0, h.tok.congr (tl.f 3 (by omega)) (fun k h1 h2 => tl.a k (by omega) (by omega) (by omega)), h.t63, ok, h.eok.congr (Nat.le_refl _) (fun k h1 h2 => ?_), h.mach.tell h.nok (by omega) (Nat.le_refl _) (fun k hk => tl.f k (by omega)) tl.l tl.nd tl.cl (fun k hk => tl.a k (by omega) (by omega) (by omega)) tl.ll⟩
      have : k = 24 ∨ k = 25 := by omega
      rcases this with rfl | rfl
      · exact e24
      · exact e25
  · rw [t1 g]; exact ⟨N, R, h.si4 1⟩
theorem MoI.function {σ : mSt} {N C R T : Nat} (h : MoI σ N C R T) {n : Nat} (hn : 1500 ≤ n) {x1 x2 x3 : Int32} : S_Mo_function n σ x1 x2 x3 ∧ ∃ T', T ≤ T' ∧ MoI (F_Mo_function n σ x1 x2 x3).2 N C R T' := by
  obtain ⟨s, T', t1, t2, t3, fr⟩ := function_ok h.tok h.t63 hn (x1 := x1) (x2 := x2) (x3 := x3)
  exact ⟨s, T', t2, t1, t3, h.nok.congr t2 (fun k hk => fr.f k (by omega) (by omega)) (fun k h1 h2 => fr.a k (by omega)), h.eok.congr t2 (fun k h1 h2 => fr.a k (by omega)), h.mach.tell h.nok (Nat.le_refl _) (Nat.le_refl _) (fun k hk => fr.f k (by omega) (by omega)) fr.l (fun k i h1 h2 _ => by rw [fr.a k (by omega)]) (fun k i h1 h2 _ => by rw [fr.a k (by omega)]) (fun k hk => fr.a k (by omega)) fr.ll⟩
theorem MoI.effect {σ : mSt} {N C R T : Nat} (h : MoI σ N C R T) {x1 x2 x3 : Int32} : S_Mo_effect σ x1 x2 x3 ∧ MoI (F_Mo_effect σ x1 x2 x3) N C R T := by
  obtain ⟨s, e1, e2⟩ := effect_ok h.tok.n h.eok (x1 := x1) (x2 := x2) (x3 := x3)
  refine ⟨s, ?_⟩
  by_cases g : EfG T x1 x2 x3
  · obtain ⟨e, ok⟩ := e2 g
    rw [e] at ok ⊢
    have a : ∀ k, k ≠ 24 → k ≠ 25 → (mo_ai (mo_ai (mo_si σ 4 0) 24 x1.toInt.toNat x2) 25 x1.toInt.toNat x3).2.2.1 k = σ.2.2.1 k := by
      intro k h1 h2; funext i; simp only [ai_3, si_2]; rw [if_neg (by omega), if_neg (by omega)]
    refine ⟨h.tok.congr (by simp [si_1, si_2, sl_1, sl_2, sl_3, ai_1, ai_2, ai_3, ai_4, al_1, al_2, al_3, al_4, cp_1, cp_2, cp_3, cp_4]) (fun k _ _ => a k (by omega) (by omega)), h.t63, h.nok.congr (Nat.le_refl _) (fun k hk => ?_) (fun k _ _ => a k (by omega) (by omega)), ok, h.mach.tell h.nok (Nat.le_refl _) (Nat.le_refl _) (fun k hk => ?_) rfl (fun k i _ _ _ => by rw [a k (by omega) (by omega)]) (fun k i _ _ _ => by rw [a k (by omega) (by omega)]) (fun k _ => a k (by omega) (by omega)) rfl⟩
    · simp only [ai_1, si_1]; rw [if_neg (by omega)]
    · simp only [ai_1, si_1]; rw [if_neg (by omega)]
  · rw [e1 g]; exact h.si4 1
theorem MoI.clear {σ : mSt} (hB : Tbits σ) {n : Nat} (hn : 9 ≤ n) : S_Mo_clear n σ ∧ MoI (F_Mo_clear n σ) 0 0 0 3 := by
  obtain ⟨s, t, k, e, c1, c2⟩ := clear_ok hB hn
  exact ⟨s, t, by omega, k, e, Or.inl c1, fun h => by rw [c2] at h; exact absurd h (by decide)⟩
theorem MoI.check {σ : mSt} {N C R T : Nat} (h : MoI σ N C R T) {n : Nat} (hn : 3000 ≤ n) {x : Int32} : S_Mo_check n σ x ∧ ∃ T', T ≤ T' ∧ MoI (F_Mo_check n σ x).2 N C R T' := by
  obtain ⟨s, ⟨T', t1, t2, t3, t4, t5⟩, o⟩ := check_ok h.tok h.t63 h.nok h.eok hn (x := x)
  refine ⟨s, ?_⟩
  rcases o with (o | o) | ⟨o1, o2⟩
  · rw [o]; exact ⟨T, Nat.le_refl _, h.si4 1⟩
  · rw [o]; exact ⟨T, Nat.le_refl _, h.si4 2⟩
  · refine ⟨T', t1, t3, t2, t4, t5, ?_, fun h46 => by rw [o1] at h46; exact absurd h46 (by decide)⟩
    rcases o2 with o2 | ⟨o2, o3, o4⟩
    · exact Or.inl o2
    · exact Or.inr ⟨x.toInt.toNat, by rw [o2]; omega, o4⟩
theorem MoI.start {σ : mSt} {N C R T : Nat} (h : MoI σ N C R T) : S_Mo_start σ ∧ MoI (F_Mo_start σ) N C R T := by
  by_cases h36 : σ.1 36 = -1
  · simp (decide := true) only [S_Mo_start, F_Mo_start, if_pos h36, S_Mo_start_j14, F_Mo_start_j14, si_1, if_true, if_false]
    exact ⟨trivial, h.si4 1⟩
  simp (decide := true) only [S_Mo_start, F_Mo_start, if_neg h36, S_Mo_start_j14, F_Mo_start_j14, si_1, if_true, S_Mo_begin, mbind_eq, and_self]
  refine ⟨trivial, ?_⟩
  have h4 := h.si4 0
  have f : ∀ k, k < 44 → (F_Mo_begin (mo_si σ 4 0)).1 k = (mo_si σ 4 0).1 k := fun k hk => begin_f hk
  refine ⟨h4.tok.congr (f 3 (by omega)) (fun _ _ _ => rfl), h.t63, h4.nok.congr (Nat.le_refl _) (fun k hk => f k (by omega)) (fun _ _ _ => rfl), h4.eok, ?_, fun _ => ?_⟩
  · rw [f 36 (by omega)]; exact h4.mach.1
  · rcases h.mach.1 with g | ⟨p, e, g1, g2, g3, P, tk, gv, t, g4, g5⟩
    · exact absurd g h36
    refine ⟨⟨σ.2.2.1, N, C, P, tk, gv⟩, _, Cx.Ok.of (σ := σ) (R := R) (T := T) g4 h.nok (fun _ _ _ => rfl), Nat.le_refl _, Nat.le_refl _, ⟨0, 0, fun _ => 0, fun _ => 0⟩, 0, 0, 0, 0, 0, t, t, 41, ⟨fun _ _ _ _ _ => rfl, ⟨by simp [si_1, si_2, sl_1, sl_2, sl_3, ai_1, ai_2, ai_3, ai_4, al_1, al_2, al_3, al_4, cp_1, cp_2, cp_3, cp_4, F_Mo_begin], by simp [si_1, si_2, sl_1, sl_2, sl_3, ai_1, ai_2, ai_3, ai_4, al_1, al_2, al_3, al_4, cp_1, cp_2, cp_3, cp_4, F_Mo_begin], by simp [si_1, si_2, sl_1, sl_2, sl_3, ai_1, ai_2, ai_3, ai_4, al_1, al_2, al_3, al_4, cp_1, cp_2, cp_3, cp_4, F_Mo_begin], by omega, by simp [si_1, si_2, sl_1, sl_2, sl_3, ai_1, ai_2, ai_3, ai_4, al_1, al_2, al_3, al_4, cp_1, cp_2, cp_3, cp_4, F_Mo_begin], fun i hi => absurd hi (Nat.not_lt_zero _), fun i hi => absurd hi (Nat.not_lt_zero _)⟩, by simp [si_1, si_2, sl_1, sl_2, sl_3, ai_1, ai_2, ai_3, ai_4, al_1, al_2, al_3, al_4, cp_1, cp_2, cp_3, cp_4, F_Mo_begin], by simp [si_1, si_2, sl_1, sl_2, sl_3, ai_1, ai_2, ai_3, ai_4, al_1, al_2, al_3, al_4, cp_1, cp_2, cp_3, cp_4, F_Mo_begin], by omega, .nil .rfl'⟩, Or.inr ⟨by simp [si_1, si_2, sl_1, sl_2, sl_3, ai_1, ai_2, ai_3, ai_4, al_1, al_2, al_3, al_4, cp_1, cp_2, cp_3, cp_4, F_Mo_begin], p, ⟨?_, ⟨g1, g2, g3⟩, ?_, (fun _ => -1), g5, ?_⟩, rfl⟩⟩
    · have : (F_Mo_begin (mo_si σ 4 0)).1 45 = σ.1 36 := by simp [si_1, si_2, sl_1, sl_2, sl_3, ai_1, ai_2, ai_3, ai_4, al_1, al_2, al_3, al_4, cp_1, cp_2, cp_3, cp_4, F_Mo_begin]
      rw [this]; exact e
    · show (σ.2.2.1 13 p).toInt < 41; omega
    · intro k hk t e; simp only at e; omega
theorem MoI.run {σ : mSt} {N C R T : Nat} (h : MoI σ N C R T) {n : Nat} (hn : 11000000000 ≤ n) {x : Int32} : S_Mo_run n σ x ∧ MoI (F_Mo_run n σ x).2 N C R T := by
  obtain ⟨s, ⟨z, fr⟩, go⟩ := run_ok h.mach hn (x := x)
  have h4 := h.si4 z
  refine ⟨s, h4.tok.congr (fr.f 3 (by omega)) (fun k _ _ => fr.a k (by omega)), h.t63, h4.nok.congr (Nat.le_refl _) (fun k hk => fr.f k (by omega)) (fun k _ _ => fr.a k (by omega)), h4.eok.congr (Nat.le_refl _) (fun k _ _ => fr.a k (by omega)), ?_, go⟩
  rw [fr.f 36 (by omega)]
  rcases h4.mach.1 with g | ⟨p, e, g1, g2, g3, P, tk, gv, t, g4, g5⟩
  · exact Or.inl g
  · refine Or.inr ⟨p, e, g1, by rw [fr.a 12 (by omega)]; exact g2, by rw [fr.a 13 (by omega)]; exact g3, P, tk, gv, t, g4, ?_⟩
    exact g5.tell (N := N) (C := C) (fun n hn p hp => ((TabOk.of h4.nok).part n hn p hp).1) (fun n hn h8 => by have c1 := (h4.nok.nd n hn).cf h8; have c2 := (h4.nok.nd n hn).cm; omega) (fun k i _ _ _ => by rw [fr.a k (by omega)]) (fun k i _ _ _ => by rw [fr.a k (by omega)]) g1
theorem fault_S (σ : mSt) (x : Int32) : S_Mo_fault σ x ∧ (F_Mo_fault σ x).2 = mo_si σ 4 0 := by
  simp only [S_Mo_fault, F_Mo_fault]
  constructor
  · repeat' split
    all_goals trivial
  · repeat' split
    all_goals rfl
theorem state_S (σ : mSt) (x : Int32) : S_Mo_state σ x ∧ (F_Mo_state σ x).2 = mo_si σ 4 0 := by
  simp only [S_Mo_state, F_Mo_state]
  constructor
  · repeat' split
    all_goals trivial
  · repeat' split
    all_goals rfl
end
section
/-! pure rows: the checking as a function -/
abbrev TT : Type := List (Nat × Nat × Int32)
def tA (τ : TT) (t : Nat) : Nat := (τ.getD (t - 3) (0, 0, 0)).1
def tR (τ : TT) (t : Nat) : Nat := (τ.getD (t - 3) (0, 0, 0)).2.1
def tW (τ : TT) (t : Nat) : Int32 := (τ.getD (t - 3) (0, 0, 0)).2.2
/-- which types suit which -/
def suitF (τ : TT) : Nat → Nat → Nat → Prop
  | 0, a, b => a = b
  | k + 1, a, b => a = b ∨ (3 ≤ a ∧ 3 ≤ b ∧ suitF τ k (tA τ b) (tA τ a) ∧ suitF τ k (tR τ a) (tR τ b) ∧ Within (tW τ a) (tW τ b))
noncomputable def suitB (τ : TT) (a b : Nat) : Bool := @decide (suitF τ (a + b) a b) (Classical.propDecidable _)
abbrev suit (τ : TT) (a b : Nat) : Prop := suitB τ a b = true
theorem suit_def {τ : TT} {a b : Nat} : suit τ a b ↔ suitF τ (a + b) a b := by
  unfold suit suitB
  exact @decide_eq_true_iff _ (Classical.propDecidable _)
/-- the parts of a type have lower numbers -/
def WT (τ : TT) : Prop := ∀ t, 3 ≤ t → t < 3 + τ.length → tA τ t < t ∧ tR τ t < t
theorem suitF_irr {τ : TT} (h : WT τ) : ∀ (k l a b : Nat), a + b ≤ k → a + b ≤ l → a < 3 + τ.length → b < 3 + τ.length → (suitF τ k a b ↔ suitF τ l a b) := by
  intro k
  induction k with
  | zero =>
    intro l a b h1 h2 ha hb
    cases l with
    | zero => exact Iff.rfl
    | succ l =>
      simp only [suitF]
      constructor
      · exact Or.inl
      · rintro (g | g)
        · exact g
        · omega
  | succ k ih =>
    intro l a b h1 h2 ha hb
    cases l with
    | zero =>
      simp only [suitF]
      constructor
      · rintro (g | g)
        · exact g
        · omega
      · exact Or.inl
    | succ l =>
      simp only [suitF]
      constructor
      · rintro (g | ⟨g1, g2, g3, g4, g5⟩)
        · exact Or.inl g
        · have w1 := h a g1 ha
          have w2 := h b g2 hb
          exact Or.inr ⟨g1, g2, (ih l _ _ (by omega) (by omega) (by omega) (by omega)).mp g3, (ih l _ _ (by omega) (by omega) (by omega) (by omega)).mp g4, g5⟩
      · rintro (g | ⟨g1, g2, g3, g4, g5⟩)
        · exact Or.inl g
        · have w1 := h a g1 ha
          have w2 := h b g2 hb
          exact Or.inr ⟨g1, g2, (ih l _ _ (by omega) (by omega) (by omega) (by omega)).mpr g3, (ih l _ _ (by omega) (by omega) (by omega) (by omega)).mpr g4, g5⟩
theorem suit_eq {τ : TT} (h : WT τ) {a b : Nat} (ha : a < 3 + τ.length) (hb : b < 3 + τ.length) : suit τ a b ↔ a = b ∨ (3 ≤ a ∧ 3 ≤ b ∧ suit τ (tA τ b) (tA τ a) ∧ suit τ (tR τ a) (tR τ b) ∧ Within (tW τ a) (tW τ b)) := by
  rw [suit_def, suit_def, suit_def]
  rw [suitF_irr h (a + b) (a + b + 1) a b (by omega) (by omega) ha hb]
  simp only [suitF]
  constructor
  · rintro (g | ⟨g1, g2, g3, g4, g5⟩)
    · exact Or.inl g
    · have w1 := h a g1 ha
      have w2 := h b g2 hb
      exact Or.inr ⟨g1, g2, (suitF_irr h _ _ _ _ (by omega) (by omega) (by omega) (by omega)).mp g3, (suitF_irr h _ _ _ _ (by omega) (by omega) (by omega) (by omega)).mp g4, g5⟩
  · rintro (g | ⟨g1, g2, g3, g4, g5⟩)
    · exact Or.inl g
    · have w1 := h a g1 ha
      have w2 := h b g2 hb
      exact Or.inr ⟨g1, g2, (suitF_irr h _ _ _ _ (by omega) (by omega) (by omega) (by omega)).mp g3, (suitF_irr h _ _ _ _ (by omega) (by omega) (by omega) (by omega)).mp g4, g5⟩
/-- any table of bits that keeps to the rule is that of suit -/
theorem suit_uniq {τ : TT} (h : WT τ) {fit : Nat → Nat → Prop} (hf : ∀ a b, a < 3 + τ.length → b < 3 + τ.length → (fit a b ↔ a = b ∨ (3 ≤ a ∧ 3 ≤ b ∧ fit (tA τ b) (tA τ a) ∧ fit (tR τ a) (tR τ b) ∧ Within (tW τ a) (tW τ b)))) : ∀ (k a b : Nat), a + b ≤ k → a < 3 + τ.length → b < 3 + τ.length → (fit a b ↔ suit τ a b) := by
  intro k
  induction k with
  | zero =>
    intro a b hk ha hb
    rw [hf a b ha hb, suit_eq h ha hb]
    constructor
    · rintro (g | g)
      · exact Or.inl g
      · omega
    · rintro (g | g)
      · exact Or.inl g
      · omega
  | succ k ih =>
    intro a b hk ha hb
    rw [hf a b ha hb, suit_eq h ha hb]
    constructor
    · rintro (g | ⟨g1, g2, g3, g4, g5⟩)
      · exact Or.inl g
      · have w1 := h a g1 ha
        have w2 := h b g2 hb
        exact Or.inr ⟨g1, g2, (ih _ _ (by omega) (by omega) (by omega)).mp g3, (ih _ _ (by omega) (by omega) (by omega)).mp g4, g5⟩
    · rintro (g | ⟨g1, g2, g3, g4, g5⟩)
      · exact Or.inl g
      · have w1 := h a g1 ha
        have w2 := h b g2 hb
        exact Or.inr ⟨g1, g2, (ih _ _ (by omega) (by omega) (by omega)).mpr g3, (ih _ _ (by omega) (by omega) (by omega)).mpr g4, g5⟩
/-- the number of a type: the first that is the same, or a new one -/
def find (x : Nat × Nat × Int32) : TT → Nat → Option Nat
  | [], _ => none
  | y :: l, i => if y = x then some i else find x l (i + 1)
def number (τ : TT) (x : Nat × Nat × Int32) : Nat × TT := match find x τ 3 with
  | some i => (i, τ)
  | none => (3 + τ.length, τ ++ [x])
theorem find_some {x : Nat × Nat × Int32} : ∀ {l : TT} {i j : Nat}, find x l i = some j → i ≤ j ∧ j < i + l.length ∧ l[j - i]? = some x ∧ ∀ k, i ≤ k → k < j → l[k - i]? ≠ some x := by
  intro l
  induction l with
  | nil => intro i j h; cases h
  | cons y l ih =>
    intro i j h
    simp only [find] at h
    by_cases hy : y = x
    · rw [if_pos hy] at h
      cases h
      refine ⟨Nat.le_refl _, by simp [si_1, si_2, sl_1, sl_2, sl_3, ai_1, ai_2, ai_3, ai_4, al_1, al_2, al_3, al_4, cp_1, cp_2, cp_3, cp_4], by simp [si_1, si_2, sl_1, sl_2, sl_3, ai_1, ai_2, ai_3, ai_4, al_1, al_2, al_3, al_4, cp_1, cp_2, cp_3, cp_4, hy], fun k h1 h2 => by omega⟩
    · rw [if_neg hy] at h
      obtain ⟨h1, h2, h3, h4⟩ := ih h
      refine ⟨by omega, by simp only [List.length_cons]; omega, ?_, fun k g1 g2 => ?_⟩
      · rw [show j - i = (j - (i + 1)) + 1 by omega]; simpa [si_1, si_2, sl_1, sl_2, sl_3, ai_1, ai_2, ai_3, ai_4, al_1, al_2, al_3, al_4, cp_1, cp_2, cp_3, cp_4] using h3
      · by_cases hk : k = i
        · subst hk; simp [si_1, si_2, sl_1, sl_2, sl_3, ai_1, ai_2, ai_3, ai_4, al_1, al_2, al_3, al_4, cp_1, cp_2, cp_3, cp_4, hy]
        · have := h4 k (by omega) g2
          rw [show k - i = (k - (i + 1)) + 1 by omega]; simpa [si_1, si_2, sl_1, sl_2, sl_3, ai_1, ai_2, ai_3, ai_4, al_1, al_2, al_3, al_4, cp_1, cp_2, cp_3, cp_4] using this
theorem find_none {x : Nat × Nat × Int32} : ∀ {l : TT} {i : Nat}, find x l i = none → ∀ k : Nat, l[k]? ≠ some x := by
  intro l
  induction l with
  | nil => intro i h k; simp [si_1, si_2, sl_1, sl_2, sl_3, ai_1, ai_2, ai_3, ai_4, al_1, al_2, al_3, al_4, cp_1, cp_2, cp_3, cp_4]
  | cons y l ih =>
    intro i h k
    simp only [find] at h
    by_cases hy : y = x
    · rw [if_pos hy] at h; cases h
    · rw [if_neg hy] at h
      cases k with
      | zero => simp [si_1, si_2, sl_1, sl_2, sl_3, ai_1, ai_2, ai_3, ai_4, al_1, al_2, al_3, al_4, cp_1, cp_2, cp_3, cp_4, hy]
      | succ k => simpa [si_1, si_2, sl_1, sl_2, sl_3, ai_1, ai_2, ai_3, ai_4, al_1, al_2, al_3, al_4, cp_1, cp_2, cp_3, cp_4] using ih h k
theorem find_of {x : Nat × Nat × Int32} : ∀ {l : TT} {i j : Nat}, i ≤ j → l[j - i]? = some x → (∀ k, i ≤ k → k < j → l[k - i]? ≠ some x) → find x l i = some j := by
  intro l
  induction l with
  | nil => intro i j _ h; simp [si_1, si_2, sl_1, sl_2, sl_3, ai_1, ai_2, ai_3, ai_4, al_1, al_2, al_3, al_4, cp_1, cp_2, cp_3, cp_4] at h
  | cons y l ih =>
    intro i j hij h hn
    simp only [find]
    by_cases hj : j = i
    · subst hj
      simp [si_1, si_2, sl_1, sl_2, sl_3, ai_1, ai_2, ai_3, ai_4, al_1, al_2, al_3, al_4, cp_1, cp_2, cp_3, cp_4] at h
      rw [if_pos h]
    · have h0 := hn i (Nat.le_refl _) (by omega)
      simp [si_1, si_2, sl_1, sl_2, sl_3, ai_1, ai_2, ai_3, ai_4, al_1, al_2, al_3, al_4, cp_1, cp_2, cp_3, cp_4] at h0
      rw [if_neg h0]
      refine ih (by omega) ?_ (fun k g1 g2 => ?_)
      · rw [show j - i = (j - (i + 1)) + 1 by omega] at h; simpa [si_1, si_2, sl_1, sl_2, sl_3, ai_1, ai_2, ai_3, ai_4, al_1, al_2, al_3, al_4, cp_1, cp_2, cp_3, cp_4] using h
      · have := hn k (by omega) g2
        rw [show k - i = (k - (i + 1)) + 1 by omega] at this; simpa [si_1, si_2, sl_1, sl_2, sl_3, ai_1, ai_2, ai_3, ai_4, al_1, al_2, al_3, al_4, cp_1, cp_2, cp_3, cp_4] using this
theorem find_of_none {x : Nat × Nat × Int32} {l : TT} {i : Nat} (h : ∀ k : Nat, l[k]? ≠ some x) : find x l i = none := by
  cases hf : find x l i with
  | none => rfl
  | some j =>
    obtain ⟨_, _, h3, _⟩ := find_some hf
    exact absurd h3 (h _)
/-- what a stage of a node's checking does -/
abbrev Act : Type := Option ((Nat × (Nat → Int) × Nat × Int32 × TT) ⊕ (Nat × Int32 × TT))
abbrev Act.into (m : Nat) (g : Nat → Int) (ct : Nat) (cr : Int32) (τ : TT) : Act := some (.inl (m, g, ct, cr, τ))
abbrev Act.ends (t : Nat) (e : Int32) (τ : TT) : Act := some (.inr (t, e, τ))
abbrev Act.bad : Act := none
theorem Act.cs {motive : Act → Prop} (bad : motive Act.bad) (ends : ∀ (t : Nat) (e : Int32) (τ : TT), motive (Act.ends t e τ)) (into : ∀ (m : Nat) (g : Nat → Int) (ct : Nat) (cr : Int32) (τ : TT), motive (Act.into m g ct cr τ)) (x : Act) : motive x := by
  rcases x with _ | (⟨m, g, ct, cr, τ⟩ | ⟨t, e, τ⟩)
  · exact bad
  · exact into m g ct cr τ
  · exact ends t e τ
abbrev Res : Type := Option (Nat × Int32 × TT)
section Sp
variable (A : Nat → Nat → Int32) (tk gv : Nat → Nat)
def left (n : Nat) : Nat → Int32 → Int32
  | 0, e => e
  | k + 1, e => left n k e &&& ((1 <<< (A 16 ((A 14 n).toInt.toNat + k) &&& 31)) ^^^ (-1))
/-- a clause begins, or the handle ends -/
noncomputable def clauses (τ : TT) (g : Nat → Int) (n j ct : Nat) (cr : Int32) : Act :=
  if j < (A 15 n).toInt.toNat then
    if ∃ i, i < j ∧ A 16 ((A 14 n).toInt.toNat + i) = A 16 ((A 14 n).toInt.toNat + j) then .bad
    else .into (A 19 ((A 14 n).toInt.toNat + j)).toInt.toNat (env (env g (A 17 ((A 14 n).toInt.toNat + j)).toInt.toNat (tk (A 16 ((A 14 n).toInt.toNat + j)).toInt.toNat)) (A 18 ((A 14 n).toInt.toNat + j)).toInt.toNat (number τ (gv (A 16 ((A 14 n).toInt.toNat + j)).toInt.toNat, ct, A 7 n)).1) ct cr (number τ (gv (A 16 ((A 14 n).toInt.toNat + j)).toInt.toNat, ct, A 7 n)).2
  else if Within (left A n (A 15 n).toInt.toNat cr) (A 7 n) then .ends ct (A 7 n) τ else .bad
noncomputable def stg (τ : TT) (g : Nat → Int) (n s ct : Nat) (cr : Int32) (t : Nat) (e : Int32) : Act :=
  let pa := (A 9 n).toInt.toNat
  let pb := (A 10 n).toInt.toNat
  let pc := (A 11 n).toInt.toNat
  let x := (A 6 n).toInt.toNat
  if (A 5 n).toInt = 0 then .ends 0 0 τ
  else if (A 5 n).toInt = 1 then .ends 1 0 τ
  else if (A 5 n).toInt = 2 then .ends 2 0 τ
  else if (A 5 n).toInt = 3 then (if g x = -1 then .bad else .ends (g x).toNat 0 τ)
  else if (A 5 n).toInt = 4 then (if s = 0 then .into pa g ct cr τ else if s = 1 then .into pb (env g x t) ct e τ else .ends t (cr ||| e) τ)
  else if (A 5 n).toInt = 5 then
    (let f := (A 8 n).toInt.toNat
     if s = 0 then .into pa (env (env g x f) (A 7 n).toInt.toNat (tA τ f)) ct cr τ
     else if s = 1 then (if suit τ t (tR τ f) ∧ Within e (tW τ f) then .into pb (env g x f) ct cr τ else .bad)
     else .ends t e τ)
  else if (A 5 n).toInt = 6 then
    (if s = 0 then .into pa g ct cr τ
     else if s = 1 then (if t = 1 then .into pb g ct e τ else .bad)
     else if s = 2 then .into pc g t (cr ||| e) τ
     else (if t = ct then .ends ct (cr ||| e) τ else .bad))
  else if (A 5 n).toInt = 7 then
    (if s = 0 then .into pa (env g x (A 7 n).toInt) ct cr τ
     else .ends (number τ ((A 7 n).toInt.toNat, t, e)).1 0 (number τ ((A 7 n).toInt.toNat, t, e)).2)
  else if (A 5 n).toInt = 8 then
    (if s = 0 then .into pa g ct cr τ
     else if s = 1 then .into pb (env g x t) ct e τ
     else if s = 2 then (if Within e (A 7 n) then clauses A tk gv τ g n 0 t cr else .bad)
     else (if suit τ t ct ∧ Within e (A 7 n) then clauses A tk gv τ g n (s - 2) ct cr else .bad))
  else if (A 5 n).toInt = 9 then
    (if s = 0 then .into pa g ct cr τ
     else if s = 1 then .into pb g t e τ
     else (if ct = 0 ∧ t = 0 then .ends (if (A 6 n).toInt < 3 then 0 else 1) (cr ||| e) τ else .bad))
  else if (A 5 n).toInt = 10 then
    (if s = 0 then .into pa g ct cr τ
     else if s = 1 then (if 3 ≤ t then .into pb g t e τ else .bad)
     else (if suit τ t (tA τ ct) then .ends (tR τ ct) (cr ||| e ||| tW τ ct) τ else .bad))
  else
    (if s = 0 then .into pa g ct cr τ
     else (if suit τ t (tk x) then .ends (gv x) (e ||| (1 <<< (A 6 n &&& 31))) τ else .bad))
/-- a node from stage s on, its parts being found by E -/
noncomputable def rest (E : TT → (Nat → Int) → Nat → Res) (g : Nat → Int) (n : Nat) : Nat → TT → Nat → Nat → Int32 → Nat → Int32 → Res
  | 0, _, _, _, _, _, _ => none
  | j + 1, τ, s, ct, cr, t, e => match stg A tk gv τ g n s ct cr t e with
    | none => none
    | some (.inr (t, e, τ)) => some (t, e, τ)
    | some (.inl (m, g', ct', cr', τ')) => if m < n then (E τ' g' m).bind (fun r => rest E g n j r.2.2 (s + 1) ct' cr' r.1 r.2.1) else none
noncomputable def evF : Nat → TT → (Nat → Int) → Nat → Res
  | 0, _, _, _ => none
  | k + 1, τ, g, n => rest A tk gv (evF k) g n 50 τ 0 0 0 0 0
noncomputable def ev (τ : TT) (g : Nat → Int) (n : Nat) : Res := evF A tk gv (n + 1) τ g n
end Sp
theorem rest_congr {A : Nat → Nat → Int32} {tk gv : Nat → Nat} {E E' : TT → (Nat → Int) → Nat → Res} {g : Nat → Int} {n : Nat} (h : ∀ τ g m, m < n → E τ g m = E' τ g m) : ∀ (j : Nat) (τ : TT) (s ct : Nat) (cr : Int32) (t : Nat) (e : Int32), rest A tk gv E g n j τ s ct cr t e = rest A tk gv E' g n j τ s ct cr t e := by
  intro j
  induction j with
  | zero => intros; rfl
  | succ j ih =>
    intro τ s ct cr t e
    simp only [rest]
    cases stg A tk gv τ g n s ct cr t e using Act.cs with
    | bad => rfl
    | ends t e τ => rfl
    | into m g' ct' cr' τ' =>
      simp only
      by_cases hm : m < n
      · rw [if_pos hm, if_pos hm, h _ _ _ hm]
        congr 1
        funext r
        exact ih _ _ _ _ _ _
      · rw [if_neg hm, if_neg hm]
theorem evF_irr {A : Nat → Nat → Int32} {tk gv : Nat → Nat} : ∀ (n k l : Nat), n < k → n < l → ∀ (τ : TT) (g : Nat → Int), evF A tk gv k τ g n = evF A tk gv l τ g n := by
  intro n
  induction n using Nat.strongRecOn with
  | _ n ih =>
    intro k l hk hl τ g
    obtain ⟨k, rfl⟩ : ∃ j, k = j + 1 := ⟨k - 1, by omega⟩
    obtain ⟨l, rfl⟩ : ∃ j, l = j + 1 := ⟨l - 1, by omega⟩
    simp only [evF]
    exact rest_congr (fun τ g m hm => ih m hm k l (by omega) (by omega) τ g) _ _ _ _ _ _ _
theorem ev_eq {A : Nat → Nat → Int32} {tk gv : Nat → Nat} (τ : TT) (g : Nat → Int) (n : Nat) : ev A tk gv τ g n = rest A tk gv (ev A tk gv) g n 50 τ 0 0 0 0 0 := by
  unfold ev
  simp only [evF]
  exact rest_congr (fun τ g m hm => evF_irr m n (m + 1) hm (by omega) τ g) _ _ _ _ _ _ _
end
section
/-- the types' table is this list -/
def TX (σ : mSt) (τ : TT) : Prop := (TOk σ (3 + τ.length)) ∧ (∀ t, 3 ≤ t → t < 3 + τ.length → (σ.2.2.1 20 t).toInt = tA τ t) ∧ (∀ t, 3 ≤ t → t < 3 + τ.length → (σ.2.2.1 21 t).toInt = tR τ t) ∧ (∀ t, 3 ≤ t → t < 3 + τ.length → σ.2.2.1 22 t = tW τ t)
theorem TX.ok {σ : mSt} {τ : TT} (self : TX σ τ) : TOk σ (3 + τ.length) := self.1
theorem TX.a {σ : mSt} {τ : TT} (self : TX σ τ) : ∀ t, 3 ≤ t → t < 3 + τ.length → (σ.2.2.1 20 t).toInt = tA τ t := self.2.1
theorem TX.r {σ : mSt} {τ : TT} (self : TX σ τ) : ∀ t, 3 ≤ t → t < 3 + τ.length → (σ.2.2.1 21 t).toInt = tR τ t := self.2.2.1
theorem TX.w {σ : mSt} {τ : TT} (self : TX σ τ) : ∀ t, 3 ≤ t → t < 3 + τ.length → σ.2.2.1 22 t = tW τ t := self.2.2.2
theorem TX.wt {σ : mSt} {τ : TT} (h : TX σ τ) : WT τ := fun t h1 h2 => by
  have := h.ok.tb t h1 h2
  unfold TB at this
  rw [h.a t h1 h2, h.r t h1 h2] at this
  omega
theorem TX.fit {σ : mSt} {τ : TT} (h : TX σ τ) {a b : Nat} (ha : a < 3 + τ.length) (hb : b < 3 + τ.length) : Fit σ a b ↔ suit τ a b := by
  refine suit_uniq h.wt (fit := Fit σ) (fun a b ha hb => ?_) (a + b) a b (Nat.le_refl _) ha hb
  have e : Fit σ a b ↔ _ := h.ok.fit a b ha hb
  rw [e]
  constructor
  · rintro (g | ⟨g1, g2, g3, g4, g5⟩)
    · exact Or.inl g
    · have a1 := h.a a g1 ha
      have a2 := h.a b g2 hb
      have r1 := h.r a g1 ha
      have r2 := h.r b g2 hb
      refine Or.inr ⟨g1, g2, ?_, ?_, ?_⟩
      · unfold Ta at g3; rw [a1, a2] at g3; exact g3
      · unfold Tr at g4; rw [r1, r2] at g4; exact g4
      · rw [← h.w a g1 ha, ← h.w b g2 hb]; exact g5
  · rintro (g | ⟨g1, g2, g3, g4, g5⟩)
    · exact Or.inl g
    · have a1 := h.a a g1 ha
      have a2 := h.a b g2 hb
      have r1 := h.r a g1 ha
      have r2 := h.r b g2 hb
      refine Or.inr ⟨g1, g2, ?_, ?_, ?_⟩
      · unfold Ta; rw [a1, a2]; exact g3
      · unfold Tr; rw [r1, r2]; exact g4
      · rw [h.w a g1 ha, h.w b g2 hb]; exact g5
theorem TX.congr {σ σ' : mSt} {τ : TT} (h : TX σ τ) (h3 : σ'.1 3 = σ.1 3) (e : ∀ k, 20 ≤ k → k ≤ 23 → σ'.2.2.1 k = σ.2.2.1 k) : TX σ' τ :=
  ⟨h.ok.congr h3 e, by rw [e 20 (by omega) (by omega)]; exact h.a, by rw [e 21 (by omega) (by omega)]; exact h.r, by rw [e 22 (by omega) (by omega)]; exact h.w⟩
theorem tget {τ : TT} {t : Nat} (h3 : 3 ≤ t) (h : t < 3 + τ.length) : τ[t - 3]? = some (tA τ t, tR τ t, tW τ t) := by
  unfold tA tR tW
  rw [List.getD_eq_getElem?_getD, List.getElem?_eq_getElem (by omega)]
  rfl
theorem tA_app {τ : TT} {x : Nat × Nat × Int32} {t : Nat} (h3 : 3 ≤ t) (h : t < 3 + τ.length) : tA (τ ++ [x]) t = tA τ t ∧ tR (τ ++ [x]) t = tR τ t ∧ tW (τ ++ [x]) t = tW τ t := by
  unfold tA tR tW
  simp only [List.getD_eq_getElem?_getD]
  rw [List.getElem?_append_left (by omega)]
  exact ⟨rfl, rfl, rfl⟩
theorem tA_new {τ : TT} {x : Nat × Nat × Int32} : tA (τ ++ [x]) (3 + τ.length) = x.1 ∧ tR (τ ++ [x]) (3 + τ.length) = x.2.1 ∧ tW (τ ++ [x]) (3 + τ.length) = x.2.2 := by
  unfold tA tR tW
  simp only [List.getD_eq_getElem?_getD]
  rw [List.getElem?_append_right (by omega), show 3 + τ.length - 3 - τ.length = 0 by omega]
  exact ⟨rfl, rfl, rfl⟩
theorem typeOf_3_x {σ : mSt} {τ : TT} (h : TX σ τ) (hlt : 3 + τ.length < 520) {x1 x2 x3 : Int32} {a b : Nat} (h1 : x1.toInt = a) (ha : a < 3 + τ.length) (h2 : x2.toInt = b) (hb : b < 3 + τ.length) :
    ∀ (m n : Nat) (y : Int32) (u : Nat), y.toInt = u → 3 ≤ u → u ≤ 3 + τ.length → 3 + τ.length - u ≤ m → m + 600 < n → (∀ k, 3 ≤ k → k < u → τ[k - 3]? ≠ some (a, b, x3)) →
    (F_Mo_typeOf_3 n σ x1 x2 x3 y).1.toInt = (number τ (a, b, x3)).1 ∧ TX (F_Mo_typeOf_3 n σ x1 x2 x3 y).2 (number τ (a, b, x3)).2 := by
  have hn := h.ok.n
  -- the end: a new one
  have fin : ∀ (n : Nat) (y : Int32), y.toInt = (3 + τ.length : Nat) → 600 ≤ n → (∀ k, 3 ≤ k → k < 3 + τ.length → τ[k - 3]? ≠ some (a, b, x3)) → (F_Mo_typeOf_3 (n + 1) σ x1 x2 x3 y).1.toInt = (number τ (a, b, x3)).1 ∧ TX (F_Mo_typeOf_3 (n + 1) σ x1 x2 x3 y).2 (number τ (a, b, x3)).2 := by
    intro n y hy hn' hno
    obtain ⟨_, T', t1, t2, t3, fr, t4, t5, t6, t7, t8⟩ := typeOf_3_new h.ok hlt (x1 := x1) (x2 := x2) (x3 := x3) (y := y) (by omega) (by omega) (n := n) hy hn'
    generalize F_Mo_typeOf_3 (n + 1) σ x1 x2 x3 y = w at *
    have nf : find (a, b, x3) τ 3 = none := find_of_none (fun k hk => by
      have hl : k < τ.length := by
        rw [List.getElem?_eq_some_iff] at hk; exact hk.1
      exact hno (k + 3) (by omega) (by omega) (by rw [Nat.add_sub_cancel]; exact hk))
    have hw : w.1.toInt = (3 + τ.length : Nat) := by
      by_cases hlt2 : w.1.toInt < (3 + τ.length : Nat)
      · exfalso
        have hk := hno w.1.toInt.toNat (by omega) (by omega)
        apply hk
        rw [tget (by omega) (by omega)]
        rw [fr.t20 _ (by omega)] at t6
        rw [fr.t21 _ (by omega)] at t7
        rw [fr.t22 _ (by omega)] at t8
        have q1 := h.a w.1.toInt.toNat (by omega) (by omega)
        have q2 := h.r w.1.toInt.toNat (by omega) (by omega)
        have q3 := h.w w.1.toInt.toNat (by omega) (by omega)
        rw [t6, h1] at q1
        rw [t7, h2] at q2
        rw [t8] at q3
        have e1 : tA τ w.1.toInt.toNat = a := by omega
        have e2 : tR τ w.1.toInt.toNat = b := by omega
        rw [e1, e2, ← q3]
      · omega
    have hT' : T' = 3 + (τ ++ [(a, b, x3)]).length := by simp only [List.length_append, List.length_singleton]; omega
    unfold number
    rw [nf]
    simp only
    refine ⟨hw, ?_⟩
    rw [hT'] at t1
    have e : w.1.toInt.toNat = 3 + τ.length := by omega
    rw [e] at t6 t7 t8
    refine ⟨t1, fun t g1 g2 => ?_, fun t g1 g2 => ?_, fun t g1 g2 => ?_⟩
    · by_cases ht : t < 3 + τ.length
      · rw [(tA_app g1 ht).1, fr.t20 t ht]; exact h.a t g1 ht
      · have : t = 3 + τ.length := by simp only [List.length_append, List.length_singleton] at g2; omega
        subst this; rw [tA_new.1, t6]; exact h1
    · by_cases ht : t < 3 + τ.length
      · rw [(tA_app g1 ht).2.1, fr.t21 t ht]; exact h.r t g1 ht
      · have : t = 3 + τ.length := by simp only [List.length_append, List.length_singleton] at g2; omega
        subst this; rw [tA_new.2.1, t7]; exact h2
    · by_cases ht : t < 3 + τ.length
      · rw [(tA_app g1 ht).2.2, fr.t22 t ht]; exact h.w t g1 ht
      · have : t = 3 + τ.length := by simp only [List.length_append, List.length_singleton] at g2; omega
        subst this; rw [tA_new.2.2, t8]
  intro m
  induction m with
  | zero =>
    intro n y u hy h3 hu hm hmn hno
    obtain ⟨n, rfl⟩ : ∃ k, n = k + 1 := ⟨n - 1, by omega⟩
    have : u = 3 + τ.length := by omega
    subst this
    exact fin n y hy (by omega) hno
  | succ m ih =>
    intro n y u hy h3 hu hm hmn hno
    obtain ⟨n, rfl⟩ : ∃ k, n = k + 1 := ⟨n - 1, by omega⟩
    by_cases hc : u = 3 + τ.length
    · subst hc; exact fin n y hy (by omega) hno
    have hc' : ¬ σ.1 3 ≤ y := by clear h ih fin hno; ((try (simp only [vp_in, Int32.toNatClampNeg, Int32.lt_iff_toInt_lt, Int32.le_iff_toInt_le, ← Int32.toInt_inj, Int32.toInt_add, Int32.toInt_sub, Int32.toInt_mul, Int32.reduceToInt, i32_neg1, Nat.reducePow, Int.reducePow, ne_eq, ge_iff_le, gt_iff_lt] at *)) <;> (first | omega | ((simp (disch := omega) only [bm32] at *) <;> omega)))
    have hyn : y.toNatClampNeg = u := by show y.toInt.toNat = u; omega
    have q1 := h.a u h3 (by omega)
    have q2 := h.r u h3 (by omega)
    have q3 := h.w u h3 (by omega)
    have tg := tget h3 (show u < 3 + τ.length by omega)
    have i1 : (y + 1).toInt = (u + 1 : Nat) := by clear h ih fin hno tg; ((try (simp only [vp_in, Int32.toNatClampNeg, Int32.lt_iff_toInt_lt, Int32.le_iff_toInt_le, ← Int32.toInt_inj, Int32.toInt_add, Int32.toInt_sub, Int32.toInt_mul, Int32.reduceToInt, i32_neg1, Nat.reducePow, Int.reducePow, ne_eq, ge_iff_le, gt_iff_lt] at *)) <;> (first | omega | ((simp (disch := omega) only [bm32] at *) <;> omega)))
    simp only [F_Mo_typeOf_3, if_neg hc', hyn]
    have nx : τ[u - 3]? ≠ some (a, b, x3) → (F_Mo_typeOf_3 n σ x1 x2 x3 (y + 1)).1.toInt = (number τ (a, b, x3)).1 ∧ TX (F_Mo_typeOf_3 n σ x1 x2 x3 (y + 1)).2 (number τ (a, b, x3)).2 := by
      intro hne
      refine ih n (y + 1) (u + 1) i1 (by omega) (by omega) (by omega) (by omega) (fun k g1 g2 => ?_)
      by_cases hk : k = u
      · subst hk; exact hne
      · exact hno k g1 (by omega)
    by_cases e1 : σ.2.2.1 20 u = x1
    rotate_left
    · simp only [if_neg e1]
      apply nx; rw [tg]; intro hh; apply e1; apply Int32.toInt_inj.mp
      have := congrArg (fun z => z.map (·.1)) hh
      simp [si_1, si_2, sl_1, sl_2, sl_3, ai_1, ai_2, ai_3, ai_4, al_1, al_2, al_3, al_4, cp_1, cp_2, cp_3, cp_4] at this
      rw [q1, h1, this]
    simp only [if_pos e1]
    by_cases e2 : σ.2.2.1 21 u = x2
    rotate_left
    · simp only [if_neg e2]
      apply nx; rw [tg]; intro hh; apply e2; apply Int32.toInt_inj.mp
      simp [si_1, si_2, sl_1, sl_2, sl_3, ai_1, ai_2, ai_3, ai_4, al_1, al_2, al_3, al_4, cp_1, cp_2, cp_3, cp_4] at hh
      rw [q2, h2, hh.2.1]
    simp only [if_pos e2]
    by_cases e3 : σ.2.2.1 22 u = x3
    rotate_left
    · simp only [if_neg e3]
      apply nx; rw [tg]; intro hh; apply e3
      simp [si_1, si_2, sl_1, sl_2, sl_3, ai_1, ai_2, ai_3, ai_4, al_1, al_2, al_3, al_4, cp_1, cp_2, cp_3, cp_4] at hh
      rw [q3, hh.2.2]
    simp only [if_pos e3]
    have ff : find (a, b, x3) τ 3 = some u := by
      refine find_of h3 ?_ hno
      rw [tg]
      rw [e1, h1] at q1
      rw [e2, h2] at q2
      rw [e3] at q3
      have : tA τ u = a := by omega
      have h2' : tR τ u = b := by omega
      rw [this, h2', ← q3]
    unfold number
    rw [ff]
    exact ⟨hy, h⟩
theorem typeOf_x {σ : mSt} {τ : TT} (h : TX σ τ) (hlt : 3 + τ.length < 520) {x1 x2 x3 : Int32} {a b : Nat} (h1 : x1.toInt = a) (ha : a < 3 + τ.length) (h2 : x2.toInt = b) (hb : b < 3 + τ.length) {n : Nat} (hn : 1200 ≤ n) :
    (F_Mo_typeOf n σ x1 x2 x3).1.toInt = (number τ (a, b, x3)).1 ∧ TX (F_Mo_typeOf n σ x1 x2 x3).2 (number τ (a, b, x3)).2 :=
  typeOf_3_x h hlt h1 ha h2 hb τ.length n 3 3 rfl (by omega) (by omega) (by omega) (by omega) (fun k g1 g2 => by omega)
end
section
/-! pure rows: a step of the reference's checking is a stage of the function -/
def Low (σ σ' : mSt) (c : Nat) : Prop := (∀ k i, 26 ≤ k → k ≤ 29 → i < c → σ'.2.2.1 k i = σ.2.2.1 k i) ∧ (∀ i, i < 10 * c → σ'.2.2.1 30 i = σ.2.2.1 30 i)
theorem Low.e {σ σ' : mSt} {c : Nat} (self : Low σ σ' c) : ∀ k i, 26 ≤ k → k ≤ 29 → i < c → σ'.2.2.1 k i = σ.2.2.1 k i := self.1
theorem Low.r {σ σ' : mSt} {c : Nat} (self : Low σ σ' c) : ∀ i, i < 10 * c → σ'.2.2.1 30 i = σ.2.2.1 30 i := self.2
def Done (σ : mSt) (c : Nat) (σ' : mSt) (act : Act) : Prop := match act with
  | none => σ'.1 34 ≠ 0
  | some (.inr (t, e, τ)) => σ'.1 34 = 0 ∧ TX σ' τ ∧ (σ'.1 32).toInt = t ∧ σ'.1 33 = e ∧ (σ'.1 31).toInt = c ∧ Low σ σ' c
  | some (.inl (m, g', ct', cr', τ')) => σ'.1 34 = 0 ∧ TX σ' τ' ∧ (σ'.1 31).toInt = c + 2 ∧ Low σ σ' c ∧ (σ'.2.2.1 26 c = σ.2.2.1 26 c ∧ (σ'.2.2.1 27 c).toInt = es σ c + 1 ∧ (σ'.2.2.1 28 c).toInt = ct' ∧ σ'.2.2.1 29 c = cr' ∧ row σ' c = row σ c) ∧ ((σ'.2.2.1 26 (c + 1)).toInt = m ∧ σ'.2.2.1 27 (c + 1) = 0 ∧ σ'.2.2.1 28 (c + 1) = 0 ∧ σ'.2.2.1 29 (c + 1) = 0 ∧ row σ' (c + 1) = g') ∧ m < en σ c
def Md (σ σ2 : mSt) (c : Nat) (τ : TT) (ct : Nat) (cr : Int32) : Prop := (TX σ2 τ) ∧ ((σ2.1 31).toInt = c + 1) ∧ (σ2.2.2.1 26 = σ.2.2.1 26) ∧ (σ2.2.2.1 30 = σ.2.2.1 30) ∧ (∀ k i, 27 ≤ k → k ≤ 29 → i < c → σ2.2.2.1 k i = σ.2.2.1 k i) ∧ ((σ2.2.2.1 27 c).toInt = es σ c + 1) ∧ ((σ2.2.2.1 28 c).toInt = ct) ∧ (σ2.2.2.1 29 c = cr)
theorem Md.tx {σ σ2 : mSt} {c : Nat} {τ : TT} {ct : Nat} {cr : Int32} (self : Md σ σ2 c τ ct cr) : TX σ2 τ := self.1
theorem Md.c31 {σ σ2 : mSt} {c : Nat} {τ : TT} {ct : Nat} {cr : Int32} (self : Md σ σ2 c τ ct cr) : (σ2.1 31).toInt = c + 1 := self.2.1
theorem Md.e26 {σ σ2 : mSt} {c : Nat} {τ : TT} {ct : Nat} {cr : Int32} (self : Md σ σ2 c τ ct cr) : σ2.2.2.1 26 = σ.2.2.1 26 := self.2.2.1
theorem Md.e30 {σ σ2 : mSt} {c : Nat} {τ : TT} {ct : Nat} {cr : Int32} (self : Md σ σ2 c τ ct cr) : σ2.2.2.1 30 = σ.2.2.1 30 := self.2.2.2.1
theorem Md.low {σ σ2 : mSt} {c : Nat} {τ : TT} {ct : Nat} {cr : Int32} (self : Md σ σ2 c τ ct cr) : ∀ k i, 27 ≤ k → k ≤ 29 → i < c → σ2.2.2.1 k i = σ.2.2.1 k i := self.2.2.2.2.1
theorem Md.s {σ σ2 : mSt} {c : Nat} {τ : TT} {ct : Nat} {cr : Int32} (self : Md σ σ2 c τ ct cr) : (σ2.2.2.1 27 c).toInt = es σ c + 1 := self.2.2.2.2.2.1
theorem Md.ct {σ σ2 : mSt} {c : Nat} {τ : TT} {ct : Nat} {cr : Int32} (self : Md σ σ2 c τ ct cr) : (σ2.2.2.1 28 c).toInt = ct := self.2.2.2.2.2.2.1
theorem Md.cr {σ σ2 : mSt} {c : Nat} {τ : TT} {ct : Nat} {cr : Int32} (self : Md σ σ2 c τ ct cr) : σ2.2.2.1 29 c = cr := self.2.2.2.2.2.2.2
theorem into_29 {c : Nat} {σ : mSt} (h31 : (σ.1 31).toInt = c) (hc : c < 45) {n : Nat} (hn : 12 ≤ n) {x : Int32} : (F_Mo_into n σ x).2.2.1 29 c = 0 := by
  have hcn : (σ.1 31).toNatClampNeg = c := by ((try (simp only [vp_in, Int32.toNatClampNeg, Int32.lt_iff_toInt_lt, Int32.le_iff_toInt_le, ← Int32.toInt_inj, Int32.toInt_add, Int32.toInt_sub, Int32.toInt_mul, Int32.reduceToInt, i32_neg1, Nat.reducePow, Int.reducePow, ne_eq, ge_iff_le, gt_iff_lt] at *)) <;> (first | omega | ((simp (disch := omega) only [bm32] at *) <;> omega)))
  simp only [F_Mo_into, mbind_eq, hcn, ai_1]
  obtain ⟨_, fr, _⟩ := into_35_ok hc (mo_ai (mo_ai (mo_ai (mo_ai σ 26 c x) 27 c 0) 29 c 0) 28 c 0) 10 n (mo_ai (mo_ai (mo_ai (mo_ai σ 26 c x) 27 c 0) 29 c 0) 28 c 0) (σ.1 31) 0 0 h31 rfl (by omega) (by omega) (by omega) RowFr.rfl' (fun k hk => by omega)
  rw [si_2, fr.a 29 c (by omega)]
  simp [si_1, si_2, sl_1, sl_2, sl_3, ai_1, ai_2, ai_3, ai_4, al_1, al_2, al_3, al_4, cp_1, cp_2, cp_3, cp_4]
theorem Md.into {σ σ2 : mSt} {c : Nat} {τ : TT} {ct : Nat} {cr : Int32} (h : Md σ σ2 c τ ct cr) (hc : c ≤ 39) {n : Nat} (hn : 12 ≤ n) {x : Int32} {m : Nat} (hx : x.toInt = m) (hm : m < en σ c) (hf : σ2.1 34 = 0) : Done σ c (F_Mo_into n σ2 x) (.into m (row σ c) ct cr τ) := by
  obtain ⟨_, ip⟩ := into_ok (c := c + 1) (σ := σ2) (by omega) (by have := h.c31; omega) hn (x := x)
  have i29 := into_29 (c := c + 1) (σ := σ2) (by have := h.c31; omega) (by omega) hn (x := x)
  generalize F_Mo_into n σ2 x = σ' at *
  refine ⟨by rw [ip.f 34 (by decide)]; exact hf, h.tx.congr (ip.f 3 (by decide)) (fun k _ _ => ip.a k (by omega)), by have := ip.f31; omega, ⟨fun k i h1 h2 hi => ?_, fun i hi => ?_⟩, ⟨?_, ?_, ?_, ?_, ?_⟩, ⟨by rw [ip.nd]; exact hx, ip.st, ip.ty, i29, ?_⟩, hm⟩
  · rw [ip.lo k i h1 h2 (by omega)]
    by_cases hk : k = 26
    · subst hk; rw [h.e26]
    · exact h.low k i (by omega) h2 hi
  · rw [ip.row i (by omega), h.e30]
  · rw [ip.lo 26 c (by omega) (by omega) (by omega), h.e26]
  · rw [ip.lo 27 c (by omega) (by omega) (by omega)]; exact h.s
  · rw [ip.lo 28 c (by omega) (by omega) (by omega)]; exact h.ct
  · rw [ip.lo 29 c (by omega) (by omega) (by omega)]; exact h.cr
  · exact row_congr (fun k hk => by rw [ip.row _ (by omega), h.e30])
  · rw [row_into ip]; exact row_congr (fun k hk => by rw [h.e30])
theorem Done.with {σ σ1 : mSt} {c : Nat} {m : Nat} {g : Nat → Int} {ct : Nat} {cr : Int32} {τ : TT} (h : Done σ c σ1 (.into m g ct cr τ)) {y : Nat} {t : Int32} (hy : y < 10) : Done σ c (mo_ai σ1 30 (10 * (c + 1) + y) t) (.into m (env g y t.toInt) ct cr τ) := by
  obtain ⟨h1, h2, h3, h4, ⟨a1, a2, a3, a4, a5⟩, ⟨b1, b2, b3, b4, b5⟩, h5⟩ := h
  refine ⟨h1, h2.congr rfl (fun k _ _ => by funext i; rw [ai_3, if_neg (by omega)]), h3, ⟨fun k i g1 g2 hi => by rw [ai_3, if_neg (by omega)]; exact h4.e k i g1 g2 hi, fun i hi => by rw [ai_3, if_neg (by omega)]; exact h4.r i hi⟩, ⟨by simpa [si_1, si_2, sl_1, sl_2, sl_3, ai_1, ai_2, ai_3, ai_4, al_1, al_2, al_3, al_4, cp_1, cp_2, cp_3, cp_4] using a1, by simpa [si_1, si_2, sl_1, sl_2, sl_3, ai_1, ai_2, ai_3, ai_4, al_1, al_2, al_3, al_4, cp_1, cp_2, cp_3, cp_4] using a2, by simpa [si_1, si_2, sl_1, sl_2, sl_3, ai_1, ai_2, ai_3, ai_4, al_1, al_2, al_3, al_4, cp_1, cp_2, cp_3, cp_4] using a3, by simpa [si_1, si_2, sl_1, sl_2, sl_3, ai_1, ai_2, ai_3, ai_4, al_1, al_2, al_3, al_4, cp_1, cp_2, cp_3, cp_4] using a4, ?_⟩, ⟨by simpa [si_1, si_2, sl_1, sl_2, sl_3, ai_1, ai_2, ai_3, ai_4, al_1, al_2, al_3, al_4, cp_1, cp_2, cp_3, cp_4] using b1, by simpa [si_1, si_2, sl_1, sl_2, sl_3, ai_1, ai_2, ai_3, ai_4, al_1, al_2, al_3, al_4, cp_1, cp_2, cp_3, cp_4] using b2, by simpa [si_1, si_2, sl_1, sl_2, sl_3, ai_1, ai_2, ai_3, ai_4, al_1, al_2, al_3, al_4, cp_1, cp_2, cp_3, cp_4] using b3, by simpa [si_1, si_2, sl_1, sl_2, sl_3, ai_1, ai_2, ai_3, ai_4, al_1, al_2, al_3, al_4, cp_1, cp_2, cp_3, cp_4] using b4, ?_⟩, h5⟩
  · rw [← a5]; exact row_congr (fun k hk => by rw [ai_3, if_neg (by omega)])
  · rw [row_env hy, b5]
theorem Md.intoWith {σ σ2 : mSt} {c : Nat} {τ : TT} {ct : Nat} {cr : Int32} (h : Md σ σ2 c τ ct cr) (hc : c ≤ 39) {n : Nat} (hn : 12 ≤ n) {x yy t : Int32} {m y : Nat} (hx : x.toInt = m) (hm : m < en σ c) (hf : σ2.1 34 = 0) (hy : yy.toInt = y) (hy10 : y < 10) : Done σ c (F_Mo_intoWith n σ2 x yy t) (.into m (env (row σ c) y t.toInt) ct cr τ) := by
  have d := h.into hc hn hx hm hf
  simp only [F_Mo_intoWith, mbind_eq]
  generalize F_Mo_into n σ2 x = σ1 at *
  have h31 := d.2.2.1
  have hi : (10 * (σ1.1 31 - 1) + yy).toNatClampNeg = 10 * (c + 1) + y := by clear d h; ((try (simp only [vp_in, Int32.toNatClampNeg, Int32.lt_iff_toInt_lt, Int32.le_iff_toInt_le, ← Int32.toInt_inj, Int32.toInt_add, Int32.toInt_sub, Int32.toInt_mul, Int32.reduceToInt, i32_neg1, Nat.reducePow, Int.reducePow, ne_eq, ge_iff_le, gt_iff_lt] at *)) <;> (first | omega | ((simp (disch := omega) only [bm32] at *) <;> omega)))
  rw [hi]
  exact d.with hy10
theorem into_34 {σ2 : mSt} {c : Nat} (h31 : (σ2.1 31).toInt = c + 1) (hc : c ≤ 39) {n : Nat} (hn : 12 ≤ n) {x : Int32} : (F_Mo_into n σ2 x).1 34 = σ2.1 34 := by
  obtain ⟨_, ip⟩ := into_ok (c := c + 1) (σ := σ2) (by omega) (by omega) hn (x := x)
  exact ip.f 34 (by decide)
theorem Md.ends {σ σ2 : mSt} {c : Nat} {τ : TT} {ct : Nat} {cr : Int32} (h : Md σ σ2 c τ ct cr) (hc : c ≤ 39) {x e : Int32} {t : Nat} (hx : x.toInt = t) (hf : σ2.1 34 = 0) : Done σ c (F_Mo_ends σ2 x e) (.ends t e τ) := by
  have c31 := h.c31
  have i31 : (σ2.1 31 - 1).toInt = c := by clear h; ((try (simp only [vp_in, Int32.toNatClampNeg, Int32.lt_iff_toInt_lt, Int32.le_iff_toInt_le, ← Int32.toInt_inj, Int32.toInt_add, Int32.toInt_sub, Int32.toInt_mul, Int32.reduceToInt, i32_neg1, Nat.reducePow, Int.reducePow, ne_eq, ge_iff_le, gt_iff_lt] at *)) <;> (first | omega | ((simp (disch := omega) only [bm32] at *) <;> omega)))
  refine ⟨by simp [si_1, si_2, sl_1, sl_2, sl_3, ai_1, ai_2, ai_3, ai_4, al_1, al_2, al_3, al_4, cp_1, cp_2, cp_3, cp_4, F_Mo_ends, hf], h.tx.congr (by simp [si_1, si_2, sl_1, sl_2, sl_3, ai_1, ai_2, ai_3, ai_4, al_1, al_2, al_3, al_4, cp_1, cp_2, cp_3, cp_4, F_Mo_ends]) (fun _ _ _ => rfl), by simp [si_1, si_2, sl_1, sl_2, sl_3, ai_1, ai_2, ai_3, ai_4, al_1, al_2, al_3, al_4, cp_1, cp_2, cp_3, cp_4, F_Mo_ends, hx], by simp [si_1, si_2, sl_1, sl_2, sl_3, ai_1, ai_2, ai_3, ai_4, al_1, al_2, al_3, al_4, cp_1, cp_2, cp_3, cp_4, F_Mo_ends], by simp [si_1, si_2, sl_1, sl_2, sl_3, ai_1, ai_2, ai_3, ai_4, al_1, al_2, al_3, al_4, cp_1, cp_2, cp_3, cp_4, F_Mo_ends, i31], ⟨fun k i h1 h2 hi => ?_, fun i hi => ?_⟩⟩
  · show σ2.2.2.1 k i = _
    by_cases hk : k = 26
    · subst hk; rw [h.e26]
    · exact h.low k i (by omega) h2 hi
  · show σ2.2.2.1 30 i = _; rw [h.e30]
theorem Md.set29 {σ σ2 : mSt} {c : Nat} {τ : TT} {ct : Nat} {cr : Int32} (h : Md σ σ2 c τ ct cr) (x : Int32) : Md σ (mo_ai σ2 29 c x) c τ ct x := by
  refine ⟨h.tx.congr rfl (fun k _ _ => by funext i; rw [ai_3, if_neg (by omega)]), h.c31, by funext i; simp [si_1, si_2, sl_1, sl_2, sl_3, ai_1, ai_2, ai_3, ai_4, al_1, al_2, al_3, al_4, cp_1, cp_2, cp_3, cp_4, h.e26], by funext i; simp [si_1, si_2, sl_1, sl_2, sl_3, ai_1, ai_2, ai_3, ai_4, al_1, al_2, al_3, al_4, cp_1, cp_2, cp_3, cp_4, h.e30], fun k i h1 h2 hi => by rw [ai_3, if_neg (by omega)]; exact h.low k i h1 h2 hi, by simpa [si_1, si_2, sl_1, sl_2, sl_3, ai_1, ai_2, ai_3, ai_4, al_1, al_2, al_3, al_4, cp_1, cp_2, cp_3, cp_4] using h.s, by simpa [si_1, si_2, sl_1, sl_2, sl_3, ai_1, ai_2, ai_3, ai_4, al_1, al_2, al_3, al_4, cp_1, cp_2, cp_3, cp_4] using h.ct, by simp [si_1, si_2, sl_1, sl_2, sl_3, ai_1, ai_2, ai_3, ai_4, al_1, al_2, al_3, al_4, cp_1, cp_2, cp_3, cp_4]⟩
theorem Md.set28 {σ σ2 : mSt} {c : Nat} {τ : TT} {ct : Nat} {cr : Int32} (h : Md σ σ2 c τ ct cr) {x : Int32} {t : Nat} (hx : x.toInt = t) : Md σ (mo_ai σ2 28 c x) c τ t cr := by
  refine ⟨h.tx.congr rfl (fun k _ _ => by funext i; rw [ai_3, if_neg (by omega)]), h.c31, by funext i; simp [si_1, si_2, sl_1, sl_2, sl_3, ai_1, ai_2, ai_3, ai_4, al_1, al_2, al_3, al_4, cp_1, cp_2, cp_3, cp_4, h.e26], by funext i; simp [si_1, si_2, sl_1, sl_2, sl_3, ai_1, ai_2, ai_3, ai_4, al_1, al_2, al_3, al_4, cp_1, cp_2, cp_3, cp_4, h.e30], fun k i h1 h2 hi => by rw [ai_3, if_neg (by omega)]; exact h.low k i h1 h2 hi, by simpa [si_1, si_2, sl_1, sl_2, sl_3, ai_1, ai_2, ai_3, ai_4, al_1, al_2, al_3, al_4, cp_1, cp_2, cp_3, cp_4] using h.s, by simp [si_1, si_2, sl_1, sl_2, sl_3, ai_1, ai_2, ai_3, ai_4, al_1, al_2, al_3, al_4, cp_1, cp_2, cp_3, cp_4, hx], by simpa [si_1, si_2, sl_1, sl_2, sl_3, ai_1, ai_2, ai_3, ai_4, al_1, al_2, al_3, al_4, cp_1, cp_2, cp_3, cp_4] using h.cr⟩
/-- a fault stays -/
theorem wrong_34 {σ : mSt} {x y : Int32} (hx : x ≠ 0) : (F_Mo_wrong σ x y).1 34 ≠ 0 := (wrong_ok hx).2.1
theorem wrong_31 {σ : mSt} {x y : Int32} (hx : x ≠ 0) : (F_Mo_wrong σ x y).1 31 = σ.1 31 := (wrong_ok (σ := σ) (x := x) (y := y) hx).2.2.1 31 (by decide) (by decide)
/-- what is known of the top entry -/
def Hd (A : Nat → Nat → Int32) (tk gv : Nat → Nat) (N C R root : Nat) (σ : mSt) (c : Nat) (τ : TT) : Prop := (SI A tk gv N C R root σ (c + 1) (3 + τ.length)) ∧ (TX σ τ) ∧ (σ.1 34 = 0)
theorem Hd.si {A : Nat → Nat → Int32} {tk gv : Nat → Nat} {N C R root : Nat} {σ : mSt} {c : Nat} {τ : TT} (self : Hd A tk gv N C R root σ c τ) : SI A tk gv N C R root σ (c + 1) (3 + τ.length) := self.1
theorem Hd.tx {A : Nat → Nat → Int32} {tk gv : Nat → Nat} {N C R root : Nat} {σ : mSt} {c : Nat} {τ : TT} (self : Hd A tk gv N C R root σ c τ) : TX σ τ := self.2.1
theorem Hd.hf {A : Nat → Nat → Int32} {tk gv : Nat → Nat} {N C R root : Nat} {σ : mSt} {c : Nat} {τ : TT} (self : Hd A tk gv N C R root σ c τ) : σ.1 34 = 0 := self.2.2
theorem Hd.md {A : Nat → Nat → Int32} {tk gv : Nat → Nat} {N C R root c : Nat} {σ : mSt} {τ : TT} (h : Hd A tk gv N C R root σ c τ) : Md σ (mo_ai σ 27 c (σ.2.2.1 27 c + 1)) c τ (ec σ c) (σ.2.2.1 29 c) := by
  have md := h.si.start.md
  refine ⟨h.tx.congr rfl (fun k _ _ => by funext i; rw [ai_3, if_neg (by omega)]), md.c31, md.e26, md.e30, fun k i h1 h2 hi => by rw [ai_3, if_neg (by omega)], md.s, ?_, by simp [si_1, si_2, sl_1, sl_2, sl_3, ai_1, ai_2, ai_3, ai_4, al_1, al_2, al_3, al_4, cp_1, cp_2, cp_3, cp_4]⟩
  rw [ai_3, if_neg (by omega)]
  unfold ec
  have := h.si.ci.ct c (by omega)
  omega
theorem Hd.part {A : Nat → Nat → Int32} {tk gv : Nat → Nat} {N C R root c : Nat} {σ : mSt} {τ : TT} (h : Hd A tk gv N C R root σ c τ) {p : Nat} (hp : p ∈ parts A (en σ c)) : p < en σ c := (h.si.tab.part _ h.si.start.hn p hp).1
end
