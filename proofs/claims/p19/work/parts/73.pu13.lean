-- pure rows: BD BE
section
noncomputable abbrev stgAt (A : Nat → Nat → Int32) (tk gv : Nat → Nat) (σ : mSt) (c : Nat) (τ : TT) : Act := stg A tk gv τ (row σ c) (en σ c) (es σ c) (ec σ c) (σ.2.2.1 29 c) (σ.1 32).toInt.toNat (σ.1 33)
/-- what the kinds' steps share -/
def Pre (A : Nat → Nat → Int32) (tk gv : Nat → Nat) (N C R : Nat) (σ σ1 : mSt) (c n : Nat) (τ : TT) : Prop := ((σ.1 31 - 1).toNatClampNeg = c) ∧ ((σ.2.2.1 26 c).toNatClampNeg = en σ c) ∧ (c ≤ 39) ∧ (Md σ σ1 c τ (ec σ c) (σ.2.2.1 29 c)) ∧ (∀ k, k ≠ 27 → σ1.2.2.1 k = σ.2.2.1 k) ∧ (σ1.1 = σ.1) ∧ (∀ k i, 5 ≤ k → k ≤ 19 → σ1.2.2.1 k i = A k i) ∧ (Nd σ C (3 + τ.length) (en σ c)) ∧ (0 ≤ (σ.2.2.1 27 c).toInt) ∧ (σ.2.2.1 27 c ≠ 0 → 0 ≤ (σ.1 32).toInt ∧ (σ.1 32).toInt < 3 + τ.length) ∧ (3 + τ.length ≤ 463)
theorem Pre.t {A : Nat → Nat → Int32} {tk gv : Nat → Nat} {N C R : Nat} {σ σ1 : mSt} {c n : Nat} {τ : TT} (self : Pre A tk gv N C R σ σ1 c n τ) : (σ.1 31 - 1).toNatClampNeg = c := self.1
theorem Pre.nn {A : Nat → Nat → Int32} {tk gv : Nat → Nat} {N C R : Nat} {σ σ1 : mSt} {c n : Nat} {τ : TT} (self : Pre A tk gv N C R σ σ1 c n τ) : (σ.2.2.1 26 c).toNatClampNeg = en σ c := self.2.1
theorem Pre.hc {A : Nat → Nat → Int32} {tk gv : Nat → Nat} {N C R : Nat} {σ σ1 : mSt} {c n : Nat} {τ : TT} (self : Pre A tk gv N C R σ σ1 c n τ) : c ≤ 39 := self.2.2.1
theorem Pre.md {A : Nat → Nat → Int32} {tk gv : Nat → Nat} {N C R : Nat} {σ σ1 : mSt} {c n : Nat} {τ : TT} (self : Pre A tk gv N C R σ σ1 c n τ) : Md σ σ1 c τ (ec σ c) (σ.2.2.1 29 c) := self.2.2.2.1
theorem Pre.a1 {A : Nat → Nat → Int32} {tk gv : Nat → Nat} {N C R : Nat} {σ σ1 : mSt} {c n : Nat} {τ : TT} (self : Pre A tk gv N C R σ σ1 c n τ) : ∀ k, k ≠ 27 → σ1.2.2.1 k = σ.2.2.1 k := self.2.2.2.2.1
theorem Pre.f1 {A : Nat → Nat → Int32} {tk gv : Nat → Nat} {N C R : Nat} {σ σ1 : mSt} {c n : Nat} {τ : TT} (self : Pre A tk gv N C R σ σ1 c n τ) : σ1.1 = σ.1 := self.2.2.2.2.2.1
theorem Pre.arr {A : Nat → Nat → Int32} {tk gv : Nat → Nat} {N C R : Nat} {σ σ1 : mSt} {c n : Nat} {τ : TT} (self : Pre A tk gv N C R σ σ1 c n τ) : ∀ k i, 5 ≤ k → k ≤ 19 → σ1.2.2.1 k i = A k i := self.2.2.2.2.2.2.1
theorem Pre.nd {A : Nat → Nat → Int32} {tk gv : Nat → Nat} {N C R : Nat} {σ σ1 : mSt} {c n : Nat} {τ : TT} (self : Pre A tk gv N C R σ σ1 c n τ) : Nd σ C (3 + τ.length) (en σ c) := self.2.2.2.2.2.2.2.1
theorem Pre.stg {A : Nat → Nat → Int32} {tk gv : Nat → Nat} {N C R : Nat} {σ σ1 : mSt} {c n : Nat} {τ : TT} (self : Pre A tk gv N C R σ σ1 c n τ) : 0 ≤ (σ.2.2.1 27 c).toInt := self.2.2.2.2.2.2.2.2.1
theorem Pre.f32 {A : Nat → Nat → Int32} {tk gv : Nat → Nat} {N C R : Nat} {σ σ1 : mSt} {c n : Nat} {τ : TT} (self : Pre A tk gv N C R σ σ1 c n τ) : σ.2.2.1 27 c ≠ 0 → 0 ≤ (σ.1 32).toInt ∧ (σ.1 32).toInt < 3 + τ.length := self.2.2.2.2.2.2.2.2.2.1
theorem Pre.len {A : Nat → Nat → Int32} {tk gv : Nat → Nat} {N C R : Nat} {σ σ1 : mSt} {c n : Nat} {τ : TT} (self : Pre A tk gv N C R σ σ1 c n τ) : 3 + τ.length ≤ 463 := self.2.2.2.2.2.2.2.2.2.2
theorem Hd.pre {A : Nat → Nat → Int32} {tk gv : Nat → Nat} {N C R root c : Nat} {σ : mSt} {τ : TT} (h : Hd A tk gv N C R root σ c τ) (n : Nat) : Pre A tk gv N C R σ (mo_ai σ 27 c (σ.2.2.1 27 c + 1)) c n τ := by
  have st := h.si.start
  refine ⟨st.t, st.nn, h.si.ci.c39 h.si.tab, h.md, st.a1, st.f1, fun k i h1 h2 => by rw [st.a1 k (by omega), h.si.ci.arr k h1 h2], h.si.ok.nd _ st.hn, (h.si.ci.st c (by omega)).1, fun hs => ?_, by have := h.si.ci.po; omega⟩
  obtain hw | ⟨g, m, t, w, ty, ft, ht⟩ := h.si.ci.top c rfl
  · exact absurd hw (by unfold es; intro hh; apply hs; have := (h.si.ci.st c (by omega)).1; apply Int32.toInt_inj.mp; rw [show (0 : Int32).toInt = 0 from rfl]; omega)
  · omega
theorem es_of {σ : mSt} {c : Nat} {x : Int32} {k : Nat} (h : σ.2.2.1 27 c = x) (hx : x.toInt = k) : es σ c = k := by unfold es; rw [h]; omega
theorem es_ne {σ : mSt} {c : Nat} {x : Int32} {k : Nat} (h : ¬ σ.2.2.1 27 c = x) (hx : x.toInt = k) (h0 : 0 ≤ (σ.2.2.1 27 c).toInt) : ¬ es σ c = k := by
  unfold es; intro hh; apply h; apply Int32.toInt_inj.mp; omega
theorem es0 {σ : mSt} {c : Nat} (h : σ.2.2.1 27 c = 0) : es σ c = 0 := es_of h rfl
theorem ens0 {σ : mSt} {c : Nat} (h : ¬ σ.2.2.1 27 c = 0) (h0 : 0 ≤ (σ.2.2.1 27 c).toInt) : ¬ es σ c = 0 := es_ne h rfl h0
theorem es1 {σ : mSt} {c : Nat} (h : σ.2.2.1 27 c = 1) : es σ c = 1 := es_of h rfl
theorem ens1 {σ : mSt} {c : Nat} (h : ¬ σ.2.2.1 27 c = 1) (h0 : 0 ≤ (σ.2.2.1 27 c).toInt) : ¬ es σ c = 1 := es_ne h rfl h0
theorem es2 {σ : mSt} {c : Nat} (h : σ.2.2.1 27 c = 2) : es σ c = 2 := es_of h rfl
theorem ens2 {σ : mSt} {c : Nat} (h : ¬ σ.2.2.1 27 c = 2) (h0 : 0 ≤ (σ.2.2.1 27 c).toInt) : ¬ es σ c = 2 := es_ne h rfl h0
theorem x_atom {A : Nat → Nat → Int32} {tk gv : Nat → Nat} {N C R root c : Nat} {σ : mSt} {τ : TT} (h : Hd A tk gv N C R root σ c τ) (hk : (A 5 (en σ c)).toInt ≤ 3) {n : Nat} (hn : 12 ≤ n) : Done σ c (F_Mo_checkStep n σ) (stgAt A tk gv σ c τ) := by
  have p := h.pre n
  simp only [F_Mo_checkStep, p.t, p.nn, mbind_eq]
  generalize mo_ai σ 27 c (σ.2.2.1 27 c + 1) = σ1 at p ⊢
  have arr := p.arr
  have k0 := p.nd.k
  unfold K at k0
  rw [h.si.ci.arr 5 (by omega) (by omega)] at k0
  have hf : σ1.1 34 = 0 := by rw [p.f1]; exact h.hf
  have hk5 : A 5 (en σ c) = 0 ∨ A 5 (en σ c) = 1 ∨ A 5 (en σ c) = 2 ∨ A 5 (en σ c) = 3 := by clear p arr h; ((try (simp only [vp_in, Int32.toNatClampNeg, Int32.lt_iff_toInt_lt, Int32.le_iff_toInt_le, ← Int32.toInt_inj, Int32.toInt_add, Int32.toInt_sub, Int32.toInt_mul, Int32.reduceToInt, i32_neg1, Nat.reducePow, Int.reducePow, ne_eq, ge_iff_le, gt_iff_lt] at *)) <;> (first | omega | ((simp (disch := omega) only [bm32] at *) <;> omega)))
  rcases hk5 with e | e | e | e
  all_goals simp (decide := true) only [arr 5 (en σ c) (by omega) (by omega), e, if_false, F_Mo_checkAtom, p.nn, mbind_eq, if_true]
  · have : stgAt A tk gv σ c τ = .ends 0 0 τ := by unfold stgAt stg; simp only; rw [if_pos (by rw [e]; rfl)]
    rw [this]
    exact p.md.ends p.hc rfl hf
  · have : stgAt A tk gv σ c τ = .ends 1 0 τ := by unfold stgAt stg; simp only; rw [if_neg (by rw [e]; decide), if_pos (by rw [e]; rfl)]
    rw [this]
    exact p.md.ends p.hc rfl hf
  · have : stgAt A tk gv σ c τ = .ends 2 0 τ := by unfold stgAt stg; simp only; rw [if_neg (by rw [e]; decide), if_neg (by rw [e]; decide), if_pos (by rw [e]; rfl)]
    rw [this]
    exact p.md.ends p.hc rfl hf
  · have k3 : (A 5 (en σ c)).toInt = 3 := by rw [e]; rfl
    have nm := p.nd.nm (by unfold K; rw [h.si.ci.arr 5 (by omega) (by omega)]; omega)
    rw [h.si.ci.arr 6 (by omega) (by omega)] at nm
    have hc := p.hc
    have c31 := h.si.ci.c31
    have hi : (10 * (σ.1 31 - 1) + A 6 (en σ c)).toNatClampNeg = 10 * c + (A 6 (en σ c)).toInt.toNat := by clear p arr h; ((try (simp only [vp_in, Int32.toNatClampNeg, Int32.lt_iff_toInt_lt, Int32.le_iff_toInt_le, ← Int32.toInt_inj, Int32.toInt_add, Int32.toInt_sub, Int32.toInt_mul, Int32.reduceToInt, i32_neg1, Nat.reducePow, Int.reducePow, ne_eq, ge_iff_le, gt_iff_lt] at *)) <;> (first | omega | ((simp (disch := omega) only [bm32] at *) <;> omega)))
    simp only [arr 6 (en σ c) (by omega) (by omega), hi, p.a1 30 (by decide)]
    have hr : row σ c (A 6 (en σ c)).toInt.toNat = (σ.2.2.1 30 (10 * c + (A 6 (en σ c)).toInt.toNat)).toInt := by unfold row; rw [if_pos (by omega)]
    have rv := h.si.ci.rows c (by omega) (A 6 (en σ c)).toInt.toNat (by omega)
    generalize σ.2.2.1 30 (10 * c + (A 6 (en σ c)).toInt.toNat) = v at *
    have sg : stgAt A tk gv σ c τ = (if v.toInt = -1 then Act.bad else .ends v.toInt.toNat 0 τ) := by
      unfold stgAt stg; simp only
      rw [if_neg (by omega), if_neg (by omega), if_neg (by omega), if_pos k3, hr]
    rw [sg]
    by_cases hv : v = -1
    · rw [if_pos hv, if_pos (by rw [hv]; rfl)]
      show (F_Mo_ends _ _ _).1 34 ≠ 0
      simp only [F_Mo_ends, si_1]
      simp (decide := true) only [if_false]
      exact wrong_34 (by decide)
    · have hv' : ¬ v.toInt = -1 := by intro hh; apply hv; apply Int32.toInt_inj.mp; rw [hh]; rfl
      rw [if_neg hv, if_neg hv']
      exact p.md.ends p.hc (by omega) hf
theorem x_let {A : Nat → Nat → Int32} {tk gv : Nat → Nat} {N C R root c : Nat} {σ : mSt} {τ : TT} (h : Hd A tk gv N C R root σ c τ) (hk : (A 5 (en σ c)).toInt = 4) {n : Nat} (hn : 12 ≤ n) : Done σ c (F_Mo_checkStep n σ) (stgAt A tk gv σ c τ) := by
  have p := h.pre n
  simp only [F_Mo_checkStep, p.t, p.nn, mbind_eq]
  generalize mo_ai σ 27 c (σ.2.2.1 27 c + 1) = σ1 at p ⊢
  have arr := p.arr
  have e5 : A 5 (en σ c) = 4 := by clear p arr h; ((try (simp only [vp_in, Int32.toNatClampNeg, Int32.lt_iff_toInt_lt, Int32.le_iff_toInt_le, ← Int32.toInt_inj, Int32.toInt_add, Int32.toInt_sub, Int32.toInt_mul, Int32.reduceToInt, i32_neg1, Nat.reducePow, Int.reducePow, ne_eq, ge_iff_le, gt_iff_lt] at *)) <;> (first | omega | ((simp (disch := omega) only [bm32] at *) <;> omega)))
  have hf : σ1.1 34 = 0 := by rw [p.f1]; exact h.hf
  have nd := p.nd
  have hK : K σ (en σ c) = 4 := by unfold K; rw [h.si.ci.arr 5 (by omega) (by omega)]; exact hk
  have q9 := partN (N := N) nd.pa (nd.ha (by omega))
  have q10 := partN (N := N) nd.pb (nd.hb (by omega))
  have nm := nd.nm (by omega)
  rw [h.si.ci.arr 9 (by omega) (by omega)] at q9
  rw [h.si.ci.arr 10 (by omega) (by omega)] at q10
  rw [h.si.ci.arr 6 (by omega) (by omega)] at nm
  have m9 := h.part (parts_a (n := en σ c) (by omega) (by omega))
  have m10 := h.part (parts_b (n := en σ c) (by omega))
  simp only [arr 5 (en σ c) (by omega) (by omega), e5, if_true, arr 9 (en σ c) (by omega) (by omega), arr 10 (en σ c) (by omega) (by omega), arr 6 (en σ c) (by omega) (by omega), ai_3, ai_1]
  have sg : stgAt A tk gv σ c τ = (if es σ c = 0 then .into (A 9 (en σ c)).toInt.toNat (row σ c) (ec σ c) (σ.2.2.1 29 c) τ else if es σ c = 1 then .into (A 10 (en σ c)).toInt.toNat (env (row σ c) (A 6 (en σ c)).toInt.toNat (σ.1 32).toInt.toNat) (ec σ c) (σ.1 33) τ else .ends (σ.1 32).toInt.toNat (σ.2.2.1 29 c ||| σ.1 33) τ) := by
    unfold stgAt stg; simp only
    rw [if_neg (by omega), if_neg (by omega), if_neg (by omega), if_neg (by omega), if_pos hk]
  rw [sg]
  by_cases s0 : σ.2.2.1 27 c = 0
  · rw [if_pos s0, if_pos (es0 s0)]
    exact p.md.into p.hc hn q9 m9 hf
  rw [if_neg s0, if_neg (ens0 s0 p.stg)]
  have f32 := p.f32 s0
  by_cases s1 : σ.2.2.1 27 c = 1
  · rw [if_pos s1, if_pos (es1 s1)]
    simp (decide := true) only [false_and, if_false]
    have d := (p.md.set29 (σ1.1 33)).intoWith p.hc hn (x := A 10 (en σ c)) (yy := A 6 (en σ c)) (t := σ1.1 32) q10 m10 hf (Int.toNat_of_nonneg nm.1).symm (by omega)
    rw [p.f1] at d ⊢
    rw [show (σ.1 32).toInt = ((σ.1 32).toInt.toNat : Int) by omega] at d
    exact d
  · rw [if_neg s1, if_neg (ens1 s1 p.stg)]
    have d := p.md.ends p.hc (x := σ1.1 32) (e := σ1.2.2.1 29 c ||| σ1.1 33) (t := (σ.1 32).toInt.toNat) (by rw [p.f1]; omega) hf
    rw [p.f1, p.a1 29 (by decide)] at d ⊢
    exact d
end
section
/-- a fit that is looked up -/
theorem fit_at {σ : mSt} {τ : TT} (tx : TX σ τ) (len : 3 + τ.length ≤ 463) {x y : Int32} {a b : Nat} (hx : x.toInt = a) (ha : a < 3 + τ.length) (hy : y.toInt = b) (hb : b < 3 + τ.length) : (σ.2.2.1 23 (520 * x + y).toNatClampNeg = 0) ↔ ¬ suit τ a b := by
  have e := (ix520 (x := x) (y := y) (by omega) (by omega)).1
  rw [hx, hy, Int.toNat_natCast, Int.toNat_natCast] at e
  rw [e, ← tx.fit ha hb]
  unfold Fit
  exact Iff.symm Classical.not_not
theorem bad_of {σ σ' : mSt} {c : Nat} (h : σ'.1 34 ≠ 0) : Done σ c σ' .bad := h
theorem ends_34 {σ : mSt} {x e : Int32} : (F_Mo_ends σ x e).1 34 = σ.1 34 := by simp [si_1, si_2, sl_1, sl_2, sl_3, ai_1, ai_2, ai_3, ai_4, al_1, al_2, al_3, al_4, cp_1, cp_2, cp_3, cp_4, F_Mo_ends]
theorem intoWith_34 {σ2 : mSt} {c : Nat} (h31 : (σ2.1 31).toInt = c + 1) (hc : c ≤ 39) {n : Nat} (hn : 12 ≤ n) {x y t : Int32} : (F_Mo_intoWith n σ2 x y t).1 34 = σ2.1 34 := by
  simp only [F_Mo_intoWith, mbind_eq, ai_1]
  exact into_34 h31 hc hn
theorem wrong_2 {σ : mSt} {x y : Int32} : (F_Mo_wrong σ x y).2 = σ.2 := by unfold F_Mo_wrong; split <;> rfl
theorem wrong_s {σ : mSt} {x y : Int32} (h : σ.1 34 ≠ 0) : (F_Mo_wrong σ x y).1 34 ≠ 0 := by unfold F_Mo_wrong; rw [if_neg h]; exact h

theorem x_rec {A : Nat → Nat → Int32} {tk gv : Nat → Nat} {N C R root c : Nat} {σ : mSt} {τ : TT} (h : Hd A tk gv N C R root σ c τ) (hk : (A 5 (en σ c)).toInt = 5) {n : Nat} (hn : 1300 ≤ n) : Done σ c (F_Mo_checkStep n σ) (stgAt A tk gv σ c τ) := by
  have p := h.pre n
  simp only [F_Mo_checkStep, p.t, p.nn, mbind_eq]
  generalize mo_ai σ 27 c (σ.2.2.1 27 c + 1) = σ1 at p ⊢
  have arr := p.arr
  have e5 : A 5 (en σ c) = 5 := by clear p arr h; ((try (simp only [vp_in, Int32.toNatClampNeg, Int32.lt_iff_toInt_lt, Int32.le_iff_toInt_le, ← Int32.toInt_inj, Int32.toInt_add, Int32.toInt_sub, Int32.toInt_mul, Int32.reduceToInt, i32_neg1, Nat.reducePow, Int.reducePow, ne_eq, ge_iff_le, gt_iff_lt] at *)) <;> (first | omega | ((simp (disch := omega) only [bm32] at *) <;> omega)))
  have hf : σ1.1 34 = 0 := by rw [p.f1]; exact h.hf
  have nd := p.nd
  have hc := p.hc
  have len := p.len
  have hK : K σ (en σ c) = 5 := by unfold K; rw [h.si.ci.arr 5 (by omega) (by omega)]; exact hk
  have c31 : (σ1.1 31).toInt = c + 1 := p.md.c31
  have tx := p.md.tx
  have q9 := partN (N := N) nd.pa (nd.ha (by omega))
  rw [h.si.ci.arr 9 (by omega) (by omega)] at q9
  have m9 := h.part (parts_a (n := en σ c) (by omega) (by omega))
  have q10 := partN (N := N) nd.pb (nd.hb (by omega))
  rw [h.si.ci.arr 10 (by omega) (by omega)] at q10
  have m10 := h.part (parts_b (n := en σ c) (by omega))
  have nm := nd.nm (by omega)
  rw [h.si.ci.arr 6 (by omega) (by omega)] at nm
  have rc := nd.rc (by omega)
  rw [h.si.ci.arr 7 (by omega) (by omega), h.si.ci.arr 8 (by omega) (by omega)] at rc
  simp (decide := true) only [arr 5 (en σ c) (by omega) (by omega), e5, if_true, if_false]
  have y8 : (A 8 (en σ c)).toNatClampNeg = (A 8 (en σ c)).toInt.toNat := rfl
  simp only [F_Mo_checkRec, F_Mo_checkRec_j102, F_Mo_checkRec_j131, p.nn, mbind_eq, arr 8 (en σ c) (by omega) (by omega), arr 9 (en σ c) (by omega) (by omega), arr 10 (en σ c) (by omega) (by omega), arr 6 (en σ c) (by omega) (by omega), y8]
  have hff : (A 8 (en σ c)).toInt = ((A 8 (en σ c)).toInt.toNat : Int) := by omega
  generalize hfd : (A 8 (en σ c)).toInt.toNat = f at *
  have ta := tx.a f (by omega) (by omega)
  have tr := tx.r f (by omega) (by omega)
  have tw := tx.w f (by omega) (by omega)
  have wt := tx.wt f (by omega) (by omega)
  have sg : stgAt A tk gv σ c τ = (if es σ c = 0 then .into (A 9 (en σ c)).toInt.toNat (env (env (row σ c) (A 6 (en σ c)).toInt.toNat f) (A 7 (en σ c)).toInt.toNat (tA τ f)) (ec σ c) (σ.2.2.1 29 c) τ else if es σ c = 1 then (if suit τ (σ.1 32).toInt.toNat (tR τ f) ∧ Within (σ.1 33) (tW τ f) then .into (A 10 (en σ c)).toInt.toNat (env (row σ c) (A 6 (en σ c)).toInt.toNat f) (ec σ c) (σ.2.2.1 29 c) τ else .bad) else .ends (σ.1 32).toInt.toNat (σ.1 33) τ) := by
    unfold stgAt stg; simp only [hfd]
    rw [if_neg (by omega), if_neg (by omega), if_neg (by omega), if_neg (by omega), if_neg (by omega), if_pos hk]
  rw [sg]
  by_cases s0 : σ.2.2.1 27 c = 0
  · rw [if_pos s0, if_pos (es0 s0)]
    have d := p.md.intoWith p.hc (n := n) (by omega) (x := A 9 (en σ c)) (yy := A 6 (en σ c)) (t := A 8 (en σ c)) q9 m9 hf (Int.toNat_of_nonneg nm.1).symm (by omega)
    have e7 : (F_Mo_intoWith n σ1 (A 9 (en σ c)) (A 6 (en σ c)) (A 8 (en σ c))).2.2.1 7 = σ1.2.2.1 7 ∧ (F_Mo_intoWith n σ1 (A 9 (en σ c)) (A 6 (en σ c)) (A 8 (en σ c))).2.2.1 20 = σ1.2.2.1 20 := by
      obtain ⟨_, ip⟩ := into_ok (c := c + 1) (σ := σ1) (by omega) (by omega) (n := n) (by omega) (x := A 9 (en σ c))
      simp only [F_Mo_intoWith, mbind_eq]
      constructor
      · funext i; rw [ai_3, if_neg (by omega), ip.a 7 (by omega)]
      · funext i; rw [ai_3, if_neg (by omega), ip.a 20 (by omega)]
    rw [e7.1, e7.2, arr 7 (en σ c) (by omega) (by omega)]
    generalize F_Mo_intoWith n σ1 (A 9 (en σ c)) (A 6 (en σ c)) (A 8 (en σ c)) = σ3 at *
    have h31 := d.2.2.1
    have hi : (10 * (σ3.1 31 - 1) + A 7 (en σ c)).toNatClampNeg = 10 * (c + 1) + (A 7 (en σ c)).toInt.toNat := by clear d p h tx arr nd sg; ((try (simp only [vp_in, Int32.toNatClampNeg, Int32.lt_iff_toInt_lt, Int32.le_iff_toInt_le, ← Int32.toInt_inj, Int32.toInt_add, Int32.toInt_sub, Int32.toInt_mul, Int32.reduceToInt, i32_neg1, Nat.reducePow, Int.reducePow, ne_eq, ge_iff_le, gt_iff_lt] at *)) <;> (first | omega | ((simp (disch := omega) only [bm32] at *) <;> omega)))
    rw [hi]
    have d2 := d.with (y := (A 7 (en σ c)).toInt.toNat) (t := σ1.2.2.1 20 f) (by omega)
    rw [ta, hff] at d2
    exact d2
  rw [if_neg s0, if_neg (ens0 s0 p.stg)]
  have f32 := p.f32 s0
  by_cases s1 : σ.2.2.1 27 c = 1
  · rw [if_pos s1, if_pos (es1 s1)]
    have fa := fit_at (x := σ1.1 32) (y := σ1.2.2.1 21 f) (a := (σ.1 32).toInt.toNat) (b := tR τ f) tx len (by rw [p.f1]; omega) (by omega) tr (by omega)
    by_cases hs : suit τ (σ.1 32).toInt.toNat (tR τ f)
    · have hz : ¬ σ1.2.2.1 23 (520 * σ1.1 32 + σ1.2.2.1 21 f).toNatClampNeg = 0 := by rw [fa]; exact fun hh => hh hs
      rw [if_neg hz]
      have e33 : σ1.1 33 &&& (σ1.2.2.1 22 f ^^^ -1) = 0 ↔ Within (σ.1 33) (tW τ f) := by rw [p.f1, tw]
      by_cases hw : Within (σ.1 33) (tW τ f)
      · rw [if_pos (e33.mpr hw), if_pos (show suit τ (σ.1 32).toInt.toNat (tR τ f) ∧ Within (σ.1 33) (tW τ f) from ⟨hs, hw⟩)]
        have d := p.md.intoWith p.hc (n := n) (by omega) (x := A 10 (en σ c)) (yy := A 6 (en σ c)) (t := A 8 (en σ c)) q10 m10 hf (Int.toNat_of_nonneg nm.1).symm (by omega)
        rw [hff] at d
        exact d
      · rw [if_neg (fun hh => hw (e33.mp hh)), if_neg (show ¬ (suit τ (σ.1 32).toInt.toNat (tR τ f) ∧ Within (σ.1 33) (tW τ f)) from fun hh => hw hh.2)]
        refine bad_of ?_
        rw [intoWith_34 (c := c) (by rw [wrong_31 (by decide)]; exact c31) hc (by omega)]
        exact wrong_34 (by decide)
    · have hz : σ1.2.2.1 23 (520 * σ1.1 32 + σ1.2.2.1 21 f).toNatClampNeg = 0 := fa.mpr hs
      rw [if_pos hz, if_neg (show ¬ (suit τ (σ.1 32).toInt.toNat (tR τ f) ∧ Within (σ.1 33) (tW τ f)) from fun hh => hs hh.1)]
      refine bad_of ?_
      split
      · rw [intoWith_34 (c := c) (by rw [wrong_31 (by decide)]; exact c31) hc (by omega)]
        exact wrong_34 (by decide)
      · rw [intoWith_34 (c := c) (by rw [wrong_31 (by decide), wrong_31 (by decide)]; exact c31) hc (by omega)]
        exact wrong_34 (by decide)
  · rw [if_neg s1, if_neg (ens1 s1 p.stg)]
    have d := p.md.ends p.hc (x := σ1.1 32) (e := σ1.1 33) (t := (σ.1 32).toInt.toNat) (by rw [p.f1]; omega) hf
    rw [p.f1] at d ⊢
    exact d

theorem x_if {A : Nat → Nat → Int32} {tk gv : Nat → Nat} {N C R root c : Nat} {σ : mSt} {τ : TT} (h : Hd A tk gv N C R root σ c τ) (hk : (A 5 (en σ c)).toInt = 6) {n : Nat} (hn : 1300 ≤ n) : Done σ c (F_Mo_checkStep n σ) (stgAt A tk gv σ c τ) := by
  have p := h.pre n
  simp only [F_Mo_checkStep, p.t, p.nn, mbind_eq]
  generalize mo_ai σ 27 c (σ.2.2.1 27 c + 1) = σ1 at p ⊢
  have arr := p.arr
  have e5 : A 5 (en σ c) = 6 := by clear p arr h; ((try (simp only [vp_in, Int32.toNatClampNeg, Int32.lt_iff_toInt_lt, Int32.le_iff_toInt_le, ← Int32.toInt_inj, Int32.toInt_add, Int32.toInt_sub, Int32.toInt_mul, Int32.reduceToInt, i32_neg1, Nat.reducePow, Int.reducePow, ne_eq, ge_iff_le, gt_iff_lt] at *)) <;> (first | omega | ((simp (disch := omega) only [bm32] at *) <;> omega)))
  have hf : σ1.1 34 = 0 := by rw [p.f1]; exact h.hf
  have nd := p.nd
  have hc := p.hc
  have len := p.len
  have hK : K σ (en σ c) = 6 := by unfold K; rw [h.si.ci.arr 5 (by omega) (by omega)]; exact hk
  have c31 : (σ1.1 31).toInt = c + 1 := p.md.c31
  have tx := p.md.tx
  have q9 := partN (N := N) nd.pa (nd.ha (by omega))
  rw [h.si.ci.arr 9 (by omega) (by omega)] at q9
  have m9 := h.part (parts_a (n := en σ c) (by omega) (by omega))
  have q10 := partN (N := N) nd.pb (nd.hb (by omega))
  rw [h.si.ci.arr 10 (by omega) (by omega)] at q10
  have m10 := h.part (parts_b (n := en σ c) (by omega))
  have q11 := partN (N := N) nd.pc (nd.hc (by omega))
  rw [h.si.ci.arr 11 (by omega) (by omega)] at q11
  have m11 := h.part (parts_c (n := en σ c) (by omega))
  simp (decide := true) only [arr 5 (en σ c) (by omega) (by omega), e5, if_true, if_false]
  simp only [F_Mo_checkIf, F_Mo_checkIf_j42, F_Mo_checkIf_j131, p.t, p.nn, mbind_eq, arr 9 (en σ c) (by omega) (by omega)]
  have sg : stgAt A tk gv σ c τ = (if es σ c = 0 then .into (A 9 (en σ c)).toInt.toNat (row σ c) (ec σ c) (σ.2.2.1 29 c) τ else if es σ c = 1 then (if (σ.1 32).toInt.toNat = 1 then .into (A 10 (en σ c)).toInt.toNat (row σ c) (ec σ c) (σ.1 33) τ else .bad) else if es σ c = 2 then .into (A 11 (en σ c)).toInt.toNat (row σ c) (σ.1 32).toInt.toNat (σ.2.2.1 29 c ||| σ.1 33) τ else (if (σ.1 32).toInt.toNat = ec σ c then .ends (ec σ c) (σ.2.2.1 29 c ||| σ.1 33) τ else .bad)) := by
    unfold stgAt stg; simp only
    rw [if_neg (by omega), if_neg (by omega), if_neg (by omega), if_neg (by omega), if_neg (by omega), if_neg (by omega), if_pos hk]
  rw [sg]
  by_cases s0 : σ.2.2.1 27 c = 0
  · rw [if_pos s0, if_pos (es0 s0)]
    exact p.md.into p.hc (by omega) q9 m9 hf
  rw [if_neg s0, if_neg (ens0 s0 p.stg)]
  have f32 := p.f32 s0
  by_cases s1 : σ.2.2.1 27 c = 1
  · rw [if_pos s1, if_pos (es1 s1)]
    have e32 : σ1.1 32 = 1 ↔ (σ.1 32).toInt.toNat = 1 := by
      rw [p.f1]
      constructor
      · intro hh; rw [hh]; rfl
      · intro hh; apply Int32.toInt_inj.mp; rw [show (1 : Int32).toInt = 1 from rfl]; omega
    by_cases ht : σ1.1 32 = 1
    · rw [if_pos ht, if_pos (e32.mp ht)]
      have e10 : (mo_ai σ1 29 c (σ1.1 33)).2.2.1 10 (en σ c) = A 10 (en σ c) := by rw [ai_3, if_neg (by omega)]; exact arr 10 _ (by omega) (by omega)
      rw [e10]
      have d := (p.md.set29 (σ1.1 33)).into p.hc (n := n) (by omega) q10 m10 hf
      rw [p.f1] at d ⊢
      exact d
    · rw [if_neg ht, if_neg (fun hh => ht (e32.mpr hh))]
      refine bad_of ?_
      rw [into_34 (c := c) (by rw [ai_1, wrong_31 (by decide)]; exact c31) hc (by omega), ai_1]
      exact wrong_34 (by decide)
  rw [if_neg s1, if_neg (ens1 s1 p.stg)]
  by_cases s2 : σ.2.2.1 27 c = 2
  · rw [if_pos s2, if_pos (es2 s2)]
    have e11 : (mo_ai (mo_ai σ1 28 c (σ1.1 32)) 29 c ((mo_ai σ1 28 c (σ1.1 32)).2.2.1 29 c ||| (mo_ai σ1 28 c (σ1.1 32)).1 33)).2.2.1 11 (en σ c) = A 11 (en σ c) := by rw [ai_3, if_neg (by omega), ai_3, if_neg (by omega)]; exact arr 11 _ (by omega) (by omega)
    rw [e11]
    have d := ((p.md.set28 (x := σ1.1 32) (t := (σ.1 32).toInt.toNat) (by rw [p.f1]; omega)).set29 (σ1.2.2.1 29 c ||| σ1.1 33)).into p.hc (n := n) (by omega) q11 m11 hf
    have e29 : (mo_ai σ1 28 c (σ1.1 32)).2.2.1 29 c = σ1.2.2.1 29 c := by rw [ai_3, if_neg (by omega)]
    rw [e29, ai_1]
    rw [p.f1, p.a1 29 (by decide)] at d ⊢
    exact d
  · rw [if_neg s2, if_neg (ens2 s2 p.stg)]
    have ct := p.md.ct
    have e32 : σ1.1 32 = σ1.2.2.1 28 c ↔ (σ.1 32).toInt.toNat = ec σ c := by
      rw [p.f1]
      constructor
      · intro hh; rw [hh, ct]; omega
      · intro hh; apply Int32.toInt_inj.mp; rw [ct]; omega
    by_cases ht : σ1.1 32 = σ1.2.2.1 28 c
    · rw [if_pos ht, if_pos (e32.mp ht)]
      have d := p.md.ends p.hc (x := σ1.2.2.1 28 c) (e := σ1.2.2.1 29 c ||| σ1.1 33) ct hf
      rw [p.f1, p.a1 29 (by decide)] at d ⊢
      exact d
    · rw [if_neg ht, if_neg (fun hh => ht (e32.mpr hh))]
      refine bad_of ?_
      rw [ends_34]
      exact wrong_34 (by decide)

theorem x_fn {A : Nat → Nat → Int32} {tk gv : Nat → Nat} {N C R root c : Nat} {σ : mSt} {τ : TT} (h : Hd A tk gv N C R root σ c τ) (hk : (A 5 (en σ c)).toInt = 7) {n : Nat} (hn : 1300 ≤ n) : Done σ c (F_Mo_checkStep n σ) (stgAt A tk gv σ c τ) := by
  have p := h.pre n
  simp only [F_Mo_checkStep, p.t, p.nn, mbind_eq]
  generalize mo_ai σ 27 c (σ.2.2.1 27 c + 1) = σ1 at p ⊢
  have arr := p.arr
  have e5 : A 5 (en σ c) = 7 := by clear p arr h; ((try (simp only [vp_in, Int32.toNatClampNeg, Int32.lt_iff_toInt_lt, Int32.le_iff_toInt_le, ← Int32.toInt_inj, Int32.toInt_add, Int32.toInt_sub, Int32.toInt_mul, Int32.reduceToInt, i32_neg1, Nat.reducePow, Int.reducePow, ne_eq, ge_iff_le, gt_iff_lt] at *)) <;> (first | omega | ((simp (disch := omega) only [bm32] at *) <;> omega)))
  have hf : σ1.1 34 = 0 := by rw [p.f1]; exact h.hf
  have nd := p.nd
  have hc := p.hc
  have len := p.len
  have hK : K σ (en σ c) = 7 := by unfold K; rw [h.si.ci.arr 5 (by omega) (by omega)]; exact hk
  have c31 : (σ1.1 31).toInt = c + 1 := p.md.c31
  have tx := p.md.tx
  have q9 := partN (N := N) nd.pa (nd.ha (by omega))
  rw [h.si.ci.arr 9 (by omega) (by omega)] at q9
  have m9 := h.part (parts_a (n := en σ c) (by omega) (by omega))
  have nm := nd.nm (by omega)
  rw [h.si.ci.arr 6 (by omega) (by omega)] at nm
  have fnn := nd.fn (by omega)
  rw [h.si.ci.arr 7 (by omega) (by omega)] at fnn
  simp (decide := true) only [arr 5 (en σ c) (by omega) (by omega), e5, if_true, if_false]
  simp only [arr 9 (en σ c) (by omega) (by omega), arr 6 (en σ c) (by omega) (by omega), arr 7 (en σ c) (by omega) (by omega)]
  have sg : stgAt A tk gv σ c τ = (if es σ c = 0 then .into (A 9 (en σ c)).toInt.toNat (env (row σ c) (A 6 (en σ c)).toInt.toNat (A 7 (en σ c)).toInt) (ec σ c) (σ.2.2.1 29 c) τ else .ends (number τ ((A 7 (en σ c)).toInt.toNat, (σ.1 32).toInt.toNat, σ.1 33)).1 0 (number τ ((A 7 (en σ c)).toInt.toNat, (σ.1 32).toInt.toNat, σ.1 33)).2) := by
    unfold stgAt stg; simp only
    rw [if_neg (by omega), if_neg (by omega), if_neg (by omega), if_neg (by omega), if_neg (by omega), if_neg (by omega), if_neg (by omega), if_pos hk]
  rw [sg]
  by_cases s0 : σ.2.2.1 27 c = 0
  · rw [if_pos s0, if_pos (es0 s0)]
    exact p.md.intoWith p.hc (by omega) q9 m9 hf (Int.toNat_of_nonneg nm.1).symm (by omega)
  rw [if_neg s0, if_neg (ens0 s0 p.stg)]
  have f32 := p.f32 s0
  obtain ⟨t1, t2⟩ := typeOf_x tx (by omega) (x1 := A 7 (en σ c)) (x2 := σ1.1 32) (x3 := σ1.1 33) (a := (A 7 (en σ c)).toInt.toNat) (b := (σ.1 32).toInt.toNat) (by omega) (by omega) (by rw [p.f1]; omega) (by omega) (n := n) (by omega)
  obtain ⟨_, T', _, _, _, fr, _⟩ := typeOf_ok tx.ok (by omega) (x1 := A 7 (en σ c)) (x2 := σ1.1 32) (x3 := σ1.1 33) (by omega) (by rw [p.f1]; omega) (n := n) (by omega)
  generalize F_Mo_typeOf n σ1 (A 7 (en σ c)) (σ1.1 32) (σ1.1 33) = wt at *
  rw [p.f1] at t1 t2
  have md2 : Md σ wt.2 c (number τ ((A 7 (en σ c)).toInt.toNat, (σ.1 32).toInt.toNat, σ.1 33)).2 (ec σ c) (σ.2.2.1 29 c) := by
    refine ⟨t2, by rw [fr.f 31 (by omega) (by omega)]; exact c31, by rw [fr.a 26 (by omega)]; exact p.md.e26, by rw [fr.a 30 (by omega)]; exact p.md.e30, fun k i h1 h2 hi => by rw [fr.a k (by omega)]; exact p.md.low k i h1 h2 hi, by rw [fr.a 27 (by omega)]; exact p.md.s, by rw [fr.a 28 (by omega)]; exact p.md.ct, by rw [fr.a 29 (by omega)]; exact p.md.cr⟩
  exact md2.ends p.hc t1 (by rw [fr.f 34 (by omega) (by omega)]; exact hf)

theorem x_two {A : Nat → Nat → Int32} {tk gv : Nat → Nat} {N C R root c : Nat} {σ : mSt} {τ : TT} (h : Hd A tk gv N C R root σ c τ) (hk : (A 5 (en σ c)).toInt = 9) {n : Nat} (hn : 1300 ≤ n) : Done σ c (F_Mo_checkStep n σ) (stgAt A tk gv σ c τ) := by
  have p := h.pre n
  simp only [F_Mo_checkStep, p.t, p.nn, mbind_eq]
  generalize mo_ai σ 27 c (σ.2.2.1 27 c + 1) = σ1 at p ⊢
  have arr := p.arr
  have e5 : A 5 (en σ c) = 9 := by clear p arr h; ((try (simp only [vp_in, Int32.toNatClampNeg, Int32.lt_iff_toInt_lt, Int32.le_iff_toInt_le, ← Int32.toInt_inj, Int32.toInt_add, Int32.toInt_sub, Int32.toInt_mul, Int32.reduceToInt, i32_neg1, Nat.reducePow, Int.reducePow, ne_eq, ge_iff_le, gt_iff_lt] at *)) <;> (first | omega | ((simp (disch := omega) only [bm32] at *) <;> omega)))
  have hf : σ1.1 34 = 0 := by rw [p.f1]; exact h.hf
  have nd := p.nd
  have hc := p.hc
  have len := p.len
  have hK : K σ (en σ c) = 9 := by unfold K; rw [h.si.ci.arr 5 (by omega) (by omega)]; exact hk
  have c31 : (σ1.1 31).toInt = c + 1 := p.md.c31
  have tx := p.md.tx
  have q9 := partN (N := N) nd.pa (nd.ha (by omega))
  rw [h.si.ci.arr 9 (by omega) (by omega)] at q9
  have m9 := h.part (parts_a (n := en σ c) (by omega) (by omega))
  have q10 := partN (N := N) nd.pb (nd.hb (by omega))
  rw [h.si.ci.arr 10 (by omega) (by omega)] at q10
  have m10 := h.part (parts_b (n := en σ c) (by omega))
  simp (decide := true) only [arr 5 (en σ c) (by omega) (by omega), e5, if_true, if_false]
  simp only [F_Mo_checkTwo, F_Mo_checkTwo_j72, F_Mo_checkTwo_j91, F_Mo_checkTwo_j107, p.t, p.nn, mbind_eq, arr 9 (en σ c) (by omega) (by omega)]
  have sg : stgAt A tk gv σ c τ = (if es σ c = 0 then .into (A 9 (en σ c)).toInt.toNat (row σ c) (ec σ c) (σ.2.2.1 29 c) τ else if es σ c = 1 then .into (A 10 (en σ c)).toInt.toNat (row σ c) (σ.1 32).toInt.toNat (σ.1 33) τ else (if ec σ c = 0 ∧ (σ.1 32).toInt.toNat = 0 then .ends (if (A 6 (en σ c)).toInt < 3 then 0 else 1) (σ.2.2.1 29 c ||| σ.1 33) τ else .bad)) := by
    unfold stgAt stg; simp only
    rw [if_neg (by omega), if_neg (by omega), if_neg (by omega), if_neg (by omega), if_neg (by omega), if_neg (by omega), if_neg (by omega), if_neg (by omega), if_neg (by omega), if_pos hk]
  rw [sg]
  by_cases s0 : σ.2.2.1 27 c = 0
  · rw [if_pos s0, if_pos (es0 s0)]
    exact p.md.into p.hc (by omega) q9 m9 hf
  rw [if_neg s0, if_neg (ens0 s0 p.stg)]
  have f32 := p.f32 s0
  by_cases s1 : σ.2.2.1 27 c = 1
  · rw [if_pos s1, if_pos (es1 s1)]
    have e10 : (mo_ai (mo_ai σ1 28 c (σ1.1 32)) 29 c ((mo_ai σ1 28 c (σ1.1 32)).1 33)).2.2.1 10 (en σ c) = A 10 (en σ c) := by rw [ai_3, if_neg (by omega), ai_3, if_neg (by omega)]; exact arr 10 _ (by omega) (by omega)
    rw [e10]
    have d := ((p.md.set28 (x := σ1.1 32) (t := (σ.1 32).toInt.toNat) (by rw [p.f1]; omega)).set29 (σ1.1 33)).into p.hc (n := n) (by omega) q10 m10 hf
    rw [ai_1]
    rw [p.f1] at d ⊢
    exact d
  rw [if_neg s1, if_neg (ens1 s1 p.stg)]
  have ct := p.md.ct
  have e28 : σ1.2.2.1 28 c = 0 ↔ ec σ c = 0 := by
    constructor
    · intro hh; rw [hh] at ct; have : (0 : Int32).toInt = 0 := rfl; omega
    · intro hh; apply Int32.toInt_inj.mp; rw [ct, hh]; rfl
  have e32 : σ1.1 32 = 0 ↔ (σ.1 32).toInt.toNat = 0 := by
    rw [p.f1]
    constructor
    · intro hh; rw [hh]; rfl
    · intro hh; apply Int32.toInt_inj.mp; rw [show (0 : Int32).toInt = 0 from rfl]; omega
  by_cases h28 : σ1.2.2.1 28 c = 0
  · rw [if_pos h28]
    by_cases h32 : σ1.1 32 = 0
    · rw [if_pos h32, if_pos (show ec σ c = 0 ∧ (σ.1 32).toInt.toNat = 0 from ⟨e28.mp h28, e32.mp h32⟩)]
      rw [arr 6 (en σ c) (by omega) (by omega)]
      by_cases h6 : 3 ≤ A 6 (en σ c)
      · have h6' : ¬ (A 6 (en σ c)).toInt < 3 := by rw [Int32.le_iff_toInt_le] at h6; have : (3 : Int32).toInt = 3 := rfl; omega
        rw [if_pos h6, if_neg h6']
        have d := p.md.ends p.hc (x := 1) (e := σ1.2.2.1 29 c ||| σ1.1 33) (t := 1) rfl hf
        rw [p.f1, p.a1 29 (by decide)] at d ⊢
        exact d
      · have h6' : (A 6 (en σ c)).toInt < 3 := by rw [Int32.le_iff_toInt_le] at h6; have : (3 : Int32).toInt = 3 := rfl; omega
        rw [if_neg h6, if_pos h6']
        have d := p.md.ends p.hc (x := 0) (e := σ1.2.2.1 29 c ||| σ1.1 33) (t := 0) rfl hf
        rw [p.f1, p.a1 29 (by decide)] at d ⊢
        exact d
    · rw [if_neg h32, if_neg (show ¬ (ec σ c = 0 ∧ (σ.1 32).toInt.toNat = 0) from fun hh => h32 (e32.mpr hh.2))]
      refine bad_of ?_
      split <;> (rw [ends_34]; exact wrong_34 (by decide))
  · rw [if_neg h28, if_neg (show ¬ (ec σ c = 0 ∧ (σ.1 32).toInt.toNat = 0) from fun hh => h28 (e28.mpr hh.1))]
    refine bad_of ?_
    split
    · split <;> (rw [ends_34]; exact wrong_34 (by decide))
    · split <;> (rw [ends_34]; exact wrong_34 (by decide))

theorem x_call {A : Nat → Nat → Int32} {tk gv : Nat → Nat} {N C R root c : Nat} {σ : mSt} {τ : TT} (h : Hd A tk gv N C R root σ c τ) (hk : (A 5 (en σ c)).toInt = 10) {n : Nat} (hn : 1300 ≤ n) : Done σ c (F_Mo_checkStep n σ) (stgAt A tk gv σ c τ) := by
  have p := h.pre n
  simp only [F_Mo_checkStep, p.t, p.nn, mbind_eq]
  generalize mo_ai σ 27 c (σ.2.2.1 27 c + 1) = σ1 at p ⊢
  have arr := p.arr
  have e5 : A 5 (en σ c) = 10 := by clear p arr h; ((try (simp only [vp_in, Int32.toNatClampNeg, Int32.lt_iff_toInt_lt, Int32.le_iff_toInt_le, ← Int32.toInt_inj, Int32.toInt_add, Int32.toInt_sub, Int32.toInt_mul, Int32.reduceToInt, i32_neg1, Nat.reducePow, Int.reducePow, ne_eq, ge_iff_le, gt_iff_lt] at *)) <;> (first | omega | ((simp (disch := omega) only [bm32] at *) <;> omega)))
  have hf : σ1.1 34 = 0 := by rw [p.f1]; exact h.hf
  have nd := p.nd
  have hc := p.hc
  have len := p.len
  have hK : K σ (en σ c) = 10 := by unfold K; rw [h.si.ci.arr 5 (by omega) (by omega)]; exact hk
  have c31 : (σ1.1 31).toInt = c + 1 := p.md.c31
  have tx := p.md.tx
  have q9 := partN (N := N) nd.pa (nd.ha (by omega))
  rw [h.si.ci.arr 9 (by omega) (by omega)] at q9
  have m9 := h.part (parts_a (n := en σ c) (by omega) (by omega))
  have q10 := partN (N := N) nd.pb (nd.hb (by omega))
  rw [h.si.ci.arr 10 (by omega) (by omega)] at q10
  have m10 := h.part (parts_b (n := en σ c) (by omega))
  simp (decide := true) only [arr 5 (en σ c) (by omega) (by omega), e5, if_true, if_false]
  simp only [F_Mo_checkCall, F_Mo_checkCall_j42, F_Mo_checkCall_j119, p.t, p.nn, mbind_eq, arr 9 (en σ c) (by omega) (by omega)]
  have sg : stgAt A tk gv σ c τ = (if es σ c = 0 then .into (A 9 (en σ c)).toInt.toNat (row σ c) (ec σ c) (σ.2.2.1 29 c) τ else if es σ c = 1 then (if 3 ≤ (σ.1 32).toInt.toNat then .into (A 10 (en σ c)).toInt.toNat (row σ c) (σ.1 32).toInt.toNat (σ.1 33) τ else .bad) else (if suit τ (σ.1 32).toInt.toNat (tA τ (ec σ c)) then .ends (tR τ (ec σ c)) (σ.2.2.1 29 c ||| σ.1 33 ||| tW τ (ec σ c)) τ else .bad)) := by
    unfold stgAt stg; simp only
    rw [if_neg (by omega), if_neg (by omega), if_neg (by omega), if_neg (by omega), if_neg (by omega), if_neg (by omega), if_neg (by omega), if_neg (by omega), if_neg (by omega), if_neg (by omega), if_pos hk]
  rw [sg]
  by_cases s0 : σ.2.2.1 27 c = 0
  · rw [if_pos s0, if_pos (es0 s0)]
    exact p.md.into p.hc (by omega) q9 m9 hf
  rw [if_neg s0, if_neg (ens0 s0 p.stg)]
  have f32 := p.f32 s0
  by_cases s1 : σ.2.2.1 27 c = 1
  · rw [if_pos s1, if_pos (es1 s1)]
    have e32 : 3 ≤ σ1.1 32 ↔ 3 ≤ (σ.1 32).toInt.toNat := by
      rw [p.f1, Int32.le_iff_toInt_le, show (3 : Int32).toInt = 3 from rfl]; omega
    by_cases ht : 3 ≤ σ1.1 32
    · rw [if_pos ht, if_pos (e32.mp ht)]
      have e10 : (mo_ai (mo_ai σ1 28 c (σ1.1 32)) 29 c ((mo_ai σ1 28 c (σ1.1 32)).1 33)).2.2.1 10 (en σ c) = A 10 (en σ c) := by rw [ai_3, if_neg (by omega), ai_3, if_neg (by omega)]; exact arr 10 _ (by omega) (by omega)
      rw [e10]
      have d := ((p.md.set28 (x := σ1.1 32) (t := (σ.1 32).toInt.toNat) (by rw [p.f1]; omega)).set29 (σ1.1 33)).into p.hc (n := n) (by omega) q10 m10 hf
      rw [ai_1]
      rw [p.f1] at d ⊢
      exact d
    · rw [if_neg ht, if_neg (fun hh => ht (e32.mpr hh))]
      refine bad_of ?_
      rw [into_34 (c := c) (by rw [ai_1, ai_1, wrong_31 (by decide)]; exact c31) hc (by omega), ai_1, ai_1]
      exact wrong_34 (by decide)
  rw [if_neg s1, if_neg (ens1 s1 p.stg)]
  have ct := p.md.ct
  have y28 : (σ1.2.2.1 28 c).toNatClampNeg = ec σ c := by show (σ1.2.2.1 28 c).toInt.toNat = _; rw [ct]; omega
  rw [y28]
  -- the type called is a function's
  have fe : 3 ≤ ec σ c ∧ ec σ c < 3 + τ.length := by
    obtain hw | ⟨g, m, t, w, ty, ft, ht⟩ := h.si.ci.top c rfl
    · exact absurd hw (ens0 s0 p.stg)
    · have hs := h.si.ci.st c (by omega)
      have pp : parts A (en σ c) = [(A 9 (en σ c)).toInt.toNat, (A 10 (en σ c)).toInt.toNat] := parts4 (by omega)
      rw [pp] at hs
      simp only [List.length_cons, List.length_nil] at hs
      have es2' : es σ c = 2 := by have a1 := ens0 s0 p.stg; have a2 := ens1 s1 p.stg; unfold es at *; omega
      rw [es2'] at w
      have : ∃ a r : Nat, (facts σ (3 + τ.length)).fn (ec σ c) a r := by
        generalize hS : (2 : Nat) = s at w
        cases w using Wj.cs <;> first | (exact ⟨_, _, by assumption⟩) | omega
      obtain ⟨a, r, h1, h2, _⟩ := this
      exact ⟨h1, h2⟩
  generalize ec σ c = f at *
  have ta := tx.a f fe.1 fe.2
  have tr := tx.r f fe.1 fe.2
  have tw := tx.w f fe.1 fe.2
  have wt := tx.wt f fe.1 fe.2
  have fa := fit_at (x := σ1.1 32) (y := σ1.2.2.1 20 f) (a := (σ.1 32).toInt.toNat) (b := tA τ f) tx len (by rw [p.f1]; omega) (by omega) ta (by omega)
  by_cases hs : suit τ (σ.1 32).toInt.toNat (tA τ f)
  · have hz : ¬ σ1.2.2.1 23 (520 * σ1.1 32 + σ1.2.2.1 20 f).toNatClampNeg = 0 := by rw [fa]; exact fun hh => hh hs
    rw [if_neg hz, if_pos hs]
    have d := p.md.ends p.hc (x := σ1.2.2.1 21 f) (e := σ1.2.2.1 29 c ||| σ1.1 33 ||| σ1.2.2.1 22 f) tr hf
    rw [tw] at d ⊢
    rw [p.f1, p.a1 29 (by decide)] at d ⊢
    exact d
  · rw [if_pos (fa.mpr hs), if_neg hs]
    refine bad_of ?_
    rw [ends_34]
    exact wrong_34 (by decide)

theorem x_perform {A : Nat → Nat → Int32} {tk gv : Nat → Nat} {N C R root c : Nat} {σ : mSt} {τ : TT} (h : Hd A tk gv N C R root σ c τ) (hk : (A 5 (en σ c)).toInt = 11) {n : Nat} (hn : 1300 ≤ n) : Done σ c (F_Mo_checkStep n σ) (stgAt A tk gv σ c τ) := by
  have p := h.pre n
  simp only [F_Mo_checkStep, p.t, p.nn, mbind_eq]
  generalize mo_ai σ 27 c (σ.2.2.1 27 c + 1) = σ1 at p ⊢
  have arr := p.arr
  have e5 : A 5 (en σ c) = 11 := by clear p arr h; ((try (simp only [vp_in, Int32.toNatClampNeg, Int32.lt_iff_toInt_lt, Int32.le_iff_toInt_le, ← Int32.toInt_inj, Int32.toInt_add, Int32.toInt_sub, Int32.toInt_mul, Int32.reduceToInt, i32_neg1, Nat.reducePow, Int.reducePow, ne_eq, ge_iff_le, gt_iff_lt] at *)) <;> (first | omega | ((simp (disch := omega) only [bm32] at *) <;> omega)))
  have hf : σ1.1 34 = 0 := by rw [p.f1]; exact h.hf
  have nd := p.nd
  have hc := p.hc
  have len := p.len
  have hK : K σ (en σ c) = 11 := by unfold K; rw [h.si.ci.arr 5 (by omega) (by omega)]; exact hk
  have c31 : (σ1.1 31).toInt = c + 1 := p.md.c31
  have tx := p.md.tx
  have q9 := partN (N := N) nd.pa (nd.ha (by omega))
  rw [h.si.ci.arr 9 (by omega) (by omega)] at q9
  have m9 := h.part (parts_a (n := en σ c) (by omega) (by omega))
  have pf := nd.pf (by omega)
  rw [h.si.ci.arr 6 (by omega) (by omega)] at pf
  simp (decide := true) only [arr 5 (en σ c) (by omega) (by omega), e5, if_true, if_false]
  have y6 : (A 6 (en σ c)).toNatClampNeg = (A 6 (en σ c)).toInt.toNat := rfl
  simp only [F_Mo_checkPerform, F_Mo_checkPerform_j57, p.t, p.nn, mbind_eq, arr 9 (en σ c) (by omega) (by omega), arr 6 (en σ c) (by omega) (by omega), y6]
  have ef := h.si.ef (A 6 (en σ c)).toInt.toNat (by omega)
  have sg : stgAt A tk gv σ c τ = (if es σ c = 0 then .into (A 9 (en σ c)).toInt.toNat (row σ c) (ec σ c) (σ.2.2.1 29 c) τ else (if suit τ (σ.1 32).toInt.toNat (tk (A 6 (en σ c)).toInt.toNat) then .ends (gv (A 6 (en σ c)).toInt.toNat) (σ.1 33 ||| (1 <<< (A 6 (en σ c) &&& 31))) τ else .bad)) := by
    unfold stgAt stg; simp only
    rw [if_neg (by omega), if_neg (by omega), if_neg (by omega), if_neg (by omega), if_neg (by omega), if_neg (by omega), if_neg (by omega), if_neg (by omega), if_neg (by omega), if_neg (by omega), if_neg (by omega)]
  rw [sg]
  by_cases s0 : σ.2.2.1 27 c = 0
  · rw [if_pos s0, if_pos (es0 s0)]
    exact p.md.into p.hc (by omega) q9 m9 hf
  rw [if_neg s0, if_neg (ens0 s0 p.stg)]
  have f32 := p.f32 s0
  rw [p.a1 24 (by decide), p.a1 25 (by decide)]
  have fa := fit_at (x := σ1.1 32) (y := σ.2.2.1 24 (A 6 (en σ c)).toInt.toNat) (a := (σ.1 32).toInt.toNat) (b := tk (A 6 (en σ c)).toInt.toNat) tx len (by rw [p.f1]; omega) (by omega) ef.1 ef.2.1
  by_cases hs : suit τ (σ.1 32).toInt.toNat (tk (A 6 (en σ c)).toInt.toNat)
  · have hz : ¬ σ1.2.2.1 23 (520 * σ1.1 32 + σ.2.2.1 24 (A 6 (en σ c)).toInt.toNat).toNatClampNeg = 0 := by rw [fa]; exact fun hh => hh hs
    rw [if_neg hz, if_pos hs]
    have d := p.md.ends p.hc (x := σ.2.2.1 25 (A 6 (en σ c)).toInt.toNat) (e := σ1.1 33 ||| (1 <<< (A 6 (en σ c) &&& 31))) ef.2.2.1 hf
    rw [p.f1] at d ⊢
    exact d
  · rw [if_pos (fa.mpr hs), if_neg hs]
    refine bad_of ?_
    rw [ends_34]
    exact wrong_34 (by decide)
end
