-- pure rows: AH AI AK0 AJ
section
theorem vx_ok {b d : Int32} {j : Nat} (b1 : 0 ≤ b.toInt ∧ b.toInt + j < 40) (hst : d.toInt = 3 + j) : vp_in (b + d - 3) 40 := by ((try (simp only [vp_in, Int32.toNatClampNeg, Int32.lt_iff_toInt_lt, Int32.le_iff_toInt_le, ← Int32.toInt_inj, Int32.toInt_add, Int32.toInt_sub, Int32.toInt_mul, Int32.reduceToInt, i32_neg1, Nat.reducePow, Int.reducePow, ne_eq, ge_iff_le, gt_iff_lt] at *)) <;> (first | omega | ((simp (disch := omega) only [bm32] at *) <;> omega)))
theorem ne0_of {d : Int32} (h0 : ¬ d = 0) (h1 : 0 ≤ d.toInt) : d.toInt.toNat ≠ 0 := by ((try (simp only [vp_in, Int32.toNatClampNeg, Int32.lt_iff_toInt_lt, Int32.le_iff_toInt_le, ← Int32.toInt_inj, Int32.toInt_add, Int32.toInt_sub, Int32.toInt_mul, Int32.reduceToInt, i32_neg1, Nat.reducePow, Int.reducePow, ne_eq, ge_iff_le, gt_iff_lt] at *)) <;> (first | omega | ((simp (disch := omega) only [bm32] at *) <;> omega)))
theorem step_handle {A : Nat → Nat → Int32} {tk gv : Nat → Nat} {N C R root c T : Nat} {σ : mSt} (h : SI A tk gv N C R root σ (c + 1) T) (hk : (A 5 (en σ c)).toInt = 8) (hf : σ.1 34 = 0) {n : Nat} (hn : 1300 ≤ n) : S_Mo_checkStep n σ ∧ StepOk A tk gv N root σ (c + 1) T (F_Mo_checkStep n σ) := by
  have st := h.start
  have hci := h.ci
  have arr := hci.arr
  have hT3 := hci.tok.lo
  have hT5 := hci.tok.hi
  have nd := h.ok.nd _ st.hn
  have hC := h.ok.hc
  have hk5 : σ.2.2.1 5 (en σ c) = 8 := by rw [arr 5 (by omega) (by omega)]; ((try (simp only [vp_in, Int32.toNatClampNeg, Int32.lt_iff_toInt_lt, Int32.le_iff_toInt_le, ← Int32.toInt_inj, Int32.toInt_add, Int32.toInt_sub, Int32.toInt_mul, Int32.reduceToInt, i32_neg1, Nat.reducePow, Int.reducePow, ne_eq, ge_iff_le, gt_iff_lt] at *)) <;> (first | omega | ((simp (disch := omega) only [bm32] at *) <;> omega)))
  have hK : K σ (en σ c) = 8 := by unfold K; rw [hk5]; rfl
  simp only [S_Mo_checkStep, F_Mo_checkStep, st.t, st.nn, mbind_eq]
  generalize mo_ai σ 27 c (σ.2.2.1 27 c + 1) = σ1 at st ⊢
  have md := st.md
  have e5 : σ1.2.2.1 5 (en σ c) = 8 := by rw [st.a1 5 (by decide)]; exact hk5
  have q9 := partN (N := N) nd.pa (nd.ha (by omega))
  have q10 := partN (N := N) nd.pb (nd.hb (by omega))
  rw [arr 9 (by omega) (by omega)] at q9
  rw [arr 10 (by omega) (by omega)] at q10
  have cf := nd.cf hK
  rw [arr 14 (by omega) (by omega), arr 15 (by omega) (by omega)] at cf
  have cm := nd.cm.1
  rw [arr 15 (by omega) (by omega)] at cm
  have hs := hci.st c (by omega)
  have pp : parts A (en σ c) = (A 9 (en σ c)).toInt.toNat :: (A 10 (en σ c)).toInt.toNat :: (List.range (A 15 (en σ c)).toInt.toNat).map (fun j => (A 19 ((A 14 (en σ c)).toInt.toNat + j)).toInt.toNat) := by
    unfold parts; rw [if_neg (by omega), if_neg (by omega), if_neg (by omega), if_pos hk]
  rw [pp] at hs
  simp only [List.length_cons, List.length_map, List.length_range] at hs
  have k4 : ¬ (8 : Int32) = 4 := by decide
  have k5 : ¬ (8 : Int32) = 5 := by decide
  have k6 : ¬ (8 : Int32) = 6 := by decide
  have k7 : ¬ (8 : Int32) = 7 := by decide
  simp only [e5, if_neg k4, if_neg k5, if_neg k6, if_neg k7, if_true]
  have v := st.vt
  have vn := st.vn
  have ht' := st.t
  have hnn := st.nn
  have a9 : σ1.2.2.1 9 (en σ c) = A 9 (en σ c) := by rw [st.a1 9 (by decide), arr 9 (by omega) (by omega)]
  have a10 : σ1.2.2.1 10 (en σ c) = A 10 (en σ c) := by rw [st.a1 10 (by decide), arr 10 (by omega) (by omega)]
  have a6 : σ1.2.2.1 6 (en σ c) = A 6 (en σ c) := by rw [st.a1 6 (by decide), arr 6 (by omega) (by omega)]
  have a14 : σ1.2.2.1 14 (en σ c) = A 14 (en σ c) := by rw [st.a1 14 (by decide), arr 14 (by omega) (by omega)]
  have nm := nd.nm (by omega)
  rw [arr 6 (by omega) (by omega)] at nm
  have e32 : σ1.1 32 = σ.1 32 := by rw [st.f1]
  have lo1 : ∀ k, k < 26 → σ1.2.2.1 k = σ.2.2.1 k := fun k hk => st.a1 k (by omega)
  simp only [S_Mo_checkHandle, F_Mo_checkHandle, ht', hnn, mbind_eq]
  by_cases s0 : σ.2.2.1 27 c = 0
  · simp only [if_pos s0]
    have es0 : es σ c = 0 := by unfold es; rw [s0]; rfl
    have r := Mid.into (tk := tk) (gv := gv) h.tab hci md (n := n) (by omega) (x := σ1.2.2.1 9 (en σ c)) (m := (A 9 (en σ c)).toInt.toNat) (by rw [a9]; exact q9) (fun _ => ⟨by rw [pp, es0]; rfl, by rw [es0]; exact .han1 hk, Nat.le_refl _⟩)
    exact ⟨⟨v, v, v, v, vn, ⟨vn, vn, r.1, trivial⟩, trivial⟩, r.2⟩
  simp only [if_neg s0]
  obtain hw | ⟨g, m, t, w, ty, ft, ht⟩ := hci.top c rfl
  · exact absurd hw (ne0_of s0 hs.1)
  by_cases s1 : σ.2.2.1 27 c = 1
  · simp only [if_pos s1]
    have es1 : es σ c = 1 := by unfold es; rw [s1]; rfl
    rw [es1] at w
    have wl : g = row σ c ∧ m = (A 9 (en σ c)).toInt.toNat := by
      generalize hS : (1 : Nat) = s at w
      cases w using Wj.cs <;> first | (exact ⟨rfl, rfl⟩) | omega
    obtain ⟨rfl, rfl⟩ := wl
    have md2 := md.set29 (i := c) (x := σ1.1 33)
    have r := Mid.intoWith (tk := tk) (gv := gv) h.tab hci md2 (n := n) (by omega) (x := A 10 (en σ c)) (yy := A 6 (en σ c)) (t := σ.1 32) (m := (A 10 (en σ c)).toInt.toNat) (y := (A 6 (en σ c)).toInt.toNat) q10 (by omega) (by omega) (by omega) (fun _ => ⟨by rw [pp, es1]; rfl, by rw [es1, ft]; exact .han2 hk (ty.mono (md2.fr.facts (Nat.le_refl _))), Nat.le_refl _⟩)
    have e1 : (mo_ai σ1 29 c (σ1.1 33)).2.2.1 10 (en σ c) = A 10 (en σ c) := by rw [ai_3, if_neg (by omega)]; exact a10
    have e2 : (mo_ai σ1 29 c (σ1.1 33)).2.2.1 6 (en σ c) = A 6 (en σ c) := by rw [ai_3, if_neg (by omega)]; exact a6
    have e3 : (mo_ai σ1 29 c (σ1.1 33)).1 32 = σ.1 32 := e32
    rw [e1, e2, e3]
    exact ⟨⟨v, v, v, v, vn, ⟨vn, v, vn, vn, r.1, trivial⟩, trivial⟩, r.2⟩
  simp only [if_neg s1]
  by_cases s2 : σ.2.2.1 27 c = 2
  · simp only [if_pos s2]
    have es2 : es σ c = 2 := by unfold es; rw [s2]; rfl
    rw [es2] at w
    have wl : ∃ t1, Ty A (facts σ T) tk gv (row σ c) (A 9 (en σ c)).toInt.toNat t1 ∧ g = env (row σ c) (A 6 (en σ c)).toInt.toNat t1 ∧ m = (A 10 (en σ c)).toInt.toNat := by
      generalize hS : (2 : Nat) = s at w
      cases w using Wj.cs <;> first | (exact ⟨_, by assumption, rfl, rfl⟩) | omega
    obtain ⟨t1, ty1, rfl, rfl⟩ := wl
    have m2 := md.set28 (x := σ1.1 32) (by rw [e32, ft]; omega)
    have hkk : HK A (facts σ T) tk gv (row σ c) (en σ c) t 0 := ⟨t1, ty1, ty, fun _ => 0, fun _ => 0, fun q h1 h2 => absurd h2 (by omega), fun q h1 h2 => absurd h2 (by omega), fun q h1 h2 => absurd h2 (by omega)⟩
    have hx2 : (σ.2.2.1 27 c).toInt = 2 + (0 : Nat) := by rw [s2]; rfl
    have h28 : ((mo_ai σ1 28 c (σ1.1 32)).2.2.1 28 c).toInt = t := by rw [ai_3, if_pos ⟨rfl, rfl⟩, e32]; exact ft
    have hlo : ∀ k, k < 26 → (mo_ai σ1 28 c (σ1.1 32)).2.2.1 k = σ.2.2.1 k := fun k hk => by funext i; rw [ai_3, if_neg (by omega), lo1 k hk]
    split
    · have r := handle_169 (y := σ1.2.2.1 7 (en σ c)) h hk m2 hn hx2 (by omega) es2 h28 ht hlo (fun _ => hkk)
      exact ⟨⟨v, v, v, v, vn, ⟨vn, v, r.1⟩, trivial⟩, r.2⟩
    · obtain ⟨w1, w2⟩ := m2.wrong (x := 7) (y := (mo_ai σ1 28 c (σ1.1 32)).2.2.1 10 (en σ c)) (by decide)
      have ww := wrong_ok (σ := mo_ai σ1 28 c (σ1.1 32)) (x := 7) (y := (mo_ai σ1 28 c (σ1.1 32)).2.2.1 10 (en σ c)) (by decide)
      have r := handle_169 (y := σ1.2.2.1 7 (en σ c)) h hk w1 hn hx2 (by omega) es2 (by rw [ww.2.2.2]; exact h28) ht (fun k hk => by rw [ww.2.2.2]; exact hlo k hk) (fun hz => absurd hz w2)
      exact ⟨⟨v, v, v, v, vn, ⟨vn, v, vn, ww.1, r.1⟩, trivial⟩, r.2⟩
  · simp only [if_neg s2]
    have hes3 : 3 ≤ es σ c := by
      unfold es
      clear cf cm
      have h0 : (σ.2.2.1 27 c).toInt ≠ 0 := fun hh => s0 (by rw [← Int32.toInt_inj, hh]; rfl)
      have h1 : (σ.2.2.1 27 c).toInt ≠ 1 := fun hh => s1 (by rw [← Int32.toInt_inj, hh]; rfl)
      have h2 : (σ.2.2.1 27 c).toInt ≠ 2 := fun hh => s2 (by rw [← Int32.toInt_inj, hh]; rfl)
      omega
    obtain ⟨j, hj⟩ : ∃ j, es σ c = 3 + j := ⟨es σ c - 3, by omega⟩
    have hst : (σ.2.2.1 27 c).toInt = 3 + j := by unfold es at hj; omega
    rw [hj] at w
    have hct := hci.ct c (by omega)
    have wl : ∃ t1 : Nat, ∃ ks us : Nat → Nat, j < (A 15 (en σ c)).toInt.toNat ∧ Ty A (facts σ T) tk gv (row σ c) (A 9 (en σ c)).toInt.toNat t1 ∧ Ty A (facts σ T) tk gv (env (row σ c) (A 6 (en σ c)).toInt.toNat t1) (A 10 (en σ c)).toInt.toNat (ec σ c) ∧ ec σ c < T ∧ (∀ q, (A 14 (en σ c)).toInt.toNat ≤ q → q < (A 14 (en σ c)).toInt.toNat + j + 1 → (facts σ T).fn (ks q) (gv (A 16 q).toInt.toNat) (ec σ c)) ∧ (∀ q, (A 14 (en σ c)).toInt.toNat ≤ q → q < (A 14 (en σ c)).toInt.toNat + j → Ty A (facts σ T) tk gv (env (env (row σ c) (A 17 q).toInt.toNat (tk (A 16 q).toInt.toNat)) (A 18 q).toInt.toNat (ks q)) (A 19 q).toInt.toNat (us q)) ∧ (∀ q, (A 14 (en σ c)).toInt.toNat ≤ q → q < (A 14 (en σ c)).toInt.toNat + j → (facts σ T).fit (us q) (ec σ c)) ∧ g = env (env (row σ c) (A 17 ((A 14 (en σ c)).toInt.toNat + j)).toInt.toNat (tk (A 16 ((A 14 (en σ c)).toInt.toNat + j)).toInt.toNat)) (A 18 ((A 14 (en σ c)).toInt.toNat + j)).toInt.toNat (ks ((A 14 (en σ c)).toInt.toNat + j)) ∧ m = (A 19 ((A 14 (en σ c)).toInt.toNat + j)).toInt.toNat := by
      generalize hS : 3 + j = s at w
      generalize hE : ec σ c = e at w
      cases w using Wj.cs with
      | han3 ks us h1 h2 h3 h4 h5 h6 h7 h8 =>
        have : _ = j := (Nat.add_left_cancel hS).symm
        subst this
        exact ⟨_, ks, us, h2, h3, h4, h5, h6, h7, h8, rfl, rfl⟩
      | _ => omega
    obtain ⟨t1, ks, us, y0, y1, y2, y3, y4, y5, y6, rfl, rfl⟩ := wl
    have e28 : σ1.2.2.1 28 c = σ.2.2.1 28 c := by rw [st.a1 28 (by decide)]
    have e23 : σ1.2.2.1 23 = σ.2.2.1 23 := st.a1 23 (by decide)
    have hctv : (σ.2.2.1 28 c).toInt = ec σ c := by unfold ec; omega
    have ix := ix520 (x := σ.1 32) (y := σ.2.2.1 28 c) (by omega) (by omega)
    have hti : (σ.1 32).toInt.toNat = t := by omega
    have hci2 : (σ.2.2.1 28 c).toInt.toNat = ec σ c := rfl
    have vx : vp_in (A 14 (en σ c) + σ.2.2.1 27 c - 3) 40 := vx_ok (j := j) (by omega) hst
    rw [a14, e28, e23, e32, ix.1, hti, hci2]
    have hkk : Fit σ t (ec σ c) → HK A (facts σ T) tk gv (row σ c) (en σ c) (ec σ c) (j + 1) := by
      intro hfit
      refine ⟨t1, y1, y2, ks, fun q => if q = (A 14 (en σ c)).toInt.toNat + j then t else us q, fun q h1 h2 => y4 q h1 (by omega), fun q h1 h2 => ?_, fun q h1 h2 => ?_⟩
      · by_cases e : q = (A 14 (en σ c)).toInt.toNat + j
        · subst e; simp only [if_true]; exact ty
        · simp only [if_neg e]; exact y5 q h1 (by omega)
      · by_cases e : q = (A 14 (en σ c)).toInt.toNat + j
        · subst e; simp only [if_true]; exact ⟨ht, y3, hfit⟩
        · simp only [if_neg e]; exact y6 q h1 (by omega)
    have hxs : (σ.2.2.1 27 c).toInt = 2 + (j + 1 : Nat) := by omega
    have j149 : ∀ (σ2 : mSt) (y z : Int32), Mid A σ σ2 c T T → σ2.2 = σ1.2 → (σ2.1 34 = 0 → Fit σ t (ec σ c)) → S_Mo_checkHandle_j149 n σ2 (σ.1 31 - 1) (σ.2.2.1 26 c) (σ.2.2.1 27 c) y z ∧ StepOk A tk gv N root σ (c + 1) T (F_Mo_checkHandle_j149 n σ2 (σ.1 31 - 1) (σ.2.2.1 26 c) (σ.2.2.1 27 c) y z) := by
      intro σ2 y z m2 he hg
      simp only [S_Mo_checkHandle_j149, F_Mo_checkHandle_j149, mbind_eq]
      split
      · exact handle_169 h hk m2 hn hxs (by omega) (by omega) (by rw [he, e28]; exact hctv) y3 (fun k hk => by rw [he]; exact lo1 k hk) (fun hz => hkk (hg hz))
      · obtain ⟨w1, w2⟩ := m2.wrong (x := 7) (y := z) (by decide)
        have ww := wrong_ok (σ := σ2) (x := 7) (y := z) (by decide)
        have r := handle_169 (y := y) h hk w1 hn hxs (by omega) (by omega) (by rw [ww.2.2.2, he, e28]; exact hctv) y3 (fun k hk => by rw [ww.2.2.2, he]; exact lo1 k hk) (fun hz => absurd hz w2)
        exact ⟨⟨ww.1, r.1⟩, r.2⟩
    by_cases z : σ.2.2.1 23 (520 * t + ec σ c) = 0
    · simp only [if_pos z]
      obtain ⟨w1, w2⟩ := md.wrong (x := 6) (y := σ1.2.2.1 19 (A 14 (en σ c) + σ.2.2.1 27 c - 3).toNatClampNeg) (by decide)
      have ww := wrong_ok (σ := σ1) (x := 6) (y := σ1.2.2.1 19 (A 14 (en σ c) + σ.2.2.1 27 c - 3).toNatClampNeg) (by decide)
      have r := j149 _ (σ1.2.2.1 7 (en σ c)) (σ1.2.2.1 19 (A 14 (en σ c) + σ.2.2.1 27 c - 3).toNatClampNeg) w1 ww.2.2.2 (fun hz => absurd hz w2)
      exact ⟨⟨v, v, v, v, vn, ⟨vn, vn, vx, v, ix.2, ww.1, r.1⟩, trivial⟩, r.2⟩
    · simp only [if_neg z]
      have r := j149 σ1 (σ1.2.2.1 7 (en σ c)) (σ1.2.2.1 19 (A 14 (en σ c) + σ.2.2.1 27 c - 3).toNatClampNeg) md rfl (fun _ => z)
      exact ⟨⟨v, v, v, v, vn, ⟨vn, vn, vx, v, ix.2, r.1⟩, trivial⟩, r.2⟩
end
section
theorem NOk.congr {σ σ' : mSt} {N C R T T' : Nat} (h : NOk σ N C R T) (hT : T ≤ T') (f : ∀ k, k < 3 → σ'.1 k = σ.1 k) (a : ∀ k, 5 ≤ k → k ≤ 19 → σ'.2.2.1 k = σ.2.2.1 k) : NOk σ' N C R T' := by
  refine ⟨by rw [f 0 (by omega)]; exact h.n, h.hn, by rw [f 1 (by omega)]; exact h.c, h.hc, by rw [f 2 (by omega)]; exact h.r, h.hr, fun i hi => (h.nd i hi).congr (Nat.le_refl _) hT (fun k h1 h2 j _ => by rw [a k h1 (by omega)]) (fun j _ => by rw [a 19 (by omega) (by omega)]), fun j hj => ?_⟩
  have := h.cl j hj
  exact ⟨by rw [a 16 (by omega) (by omega)]; exact this.e, by rw [a 17 (by omega) (by omega)]; exact this.x, by rw [a 18 (by omega) (by omega)]; exact this.k, by rw [a 19 (by omega) (by omega)]; exact this.b⟩
theorem SI.next {A : Nat → Nat → Int32} {tk gv : Nat → Nat} {N C R root c c' T T' : Nat} {σ σ' : mSt} (h : SI A tk gv N C R root σ c T) (hT : T ≤ T') (fr : CkFr T σ σ') (ci : CI A tk gv N root σ' c' T') : SI A tk gv N C R root σ' c' T' := by
  refine ⟨ci, h.ok.congr hT (fun k hk => fr.f k (by omega) (by omega) (by omega)) (fun k h1 h2 => fr.a k (by omega) (by omega)), fun e he => ?_, h.tab⟩
  have := h.ef e he
  rw [fr.a 24 (by omega) (by omega), fr.a 25 (by omega) (by omega)]
  exact ⟨this.1, by omega, this.2.2.1, by omega⟩
theorem step_any {A : Nat → Nat → Int32} {tk gv : Nat → Nat} {N C R root c T : Nat} {σ : mSt} (h : SI A tk gv N C R root σ (c + 1) T) (hf : σ.1 34 = 0) {n : Nat} (hn : 1300 ≤ n) : S_Mo_checkStep n σ ∧ StepOk A tk gv N root σ (c + 1) T (F_Mo_checkStep n σ) := by
  have hk : 0 ≤ (A 5 (en σ c)).toInt ∧ (A 5 (en σ c)).toInt ≤ 11 := by
    have := (h.ok.nd (en σ c) h.start.hn).k
    unfold K at this
    rw [h.ci.arr 5 (by omega) (by omega)] at this
    exact this
  by_cases h0 : (A 5 (en σ c)).toInt ≤ 3
  · exact step_atom h h0 hf (by omega)
  by_cases h1 : (A 5 (en σ c)).toInt = 4
  · exact step_let h h1 hf (by omega)
  by_cases h1 : (A 5 (en σ c)).toInt = 5
  · exact step_rec h h1 hf (by omega)
  by_cases h1 : (A 5 (en σ c)).toInt = 6
  · exact step_if h h1 hf (by omega)
  by_cases h1 : (A 5 (en σ c)).toInt = 7
  · exact step_fn h h1 hf (by omega)
  by_cases h1 : (A 5 (en σ c)).toInt = 8
  · exact step_handle h h1 hf (by omega)
  by_cases h1 : (A 5 (en σ c)).toInt = 9
  · exact step_two h h1 hf (by omega)
  by_cases h1 : (A 5 (en σ c)).toInt = 10
  · exact step_call h h1 hf (by omega)
  · exact step_perform h (by omega) hf (by omega)
theorem check_93_ok {A : Nat → Nat → Int32} {tk gv : Nat → Nat} {N C R root : Nat} {x1 x2 : Int32} : ∀ (m : Nat) (σ : mSt) (c T n : Nat), SI A tk gv N C R root σ c T → mu A σ c ≤ m → m + 1300 < n →
    S_Mo_check_93 n σ x1 x2 ∧ ∃ T', (F_Mo_check_93 n σ x1 x2).2 = (x1, x2) ∧ TOk (F_Mo_check_93 n σ x1 x2).1 T' ∧ T ≤ T' ∧ CkFr T σ (F_Mo_check_93 n σ x1 x2).1 ∧ ((F_Mo_check_93 n σ x1 x2).1.1 34 = 0 → SI A tk gv N C R root (F_Mo_check_93 n σ x1 x2).1 0 T') := by
  intro m
  induction m using Nat.strongRecOn with
  | _ m ih =>
    intro σ c T n h hm hn
    obtain ⟨n, rfl⟩ : ∃ k, n = k + 1 := ⟨n - 1, by omega⟩
    simp only [S_Mo_check_93, F_Mo_check_93, mbind_eq]
    have c31 := h.ci.c31
    by_cases hc : σ.1 31 ≤ 0
    · have : c = 0 := by ((try (simp only [vp_in, Int32.toNatClampNeg, Int32.lt_iff_toInt_lt, Int32.le_iff_toInt_le, ← Int32.toInt_inj, Int32.toInt_add, Int32.toInt_sub, Int32.toInt_mul, Int32.reduceToInt, i32_neg1, Nat.reducePow, Int.reducePow, ne_eq, ge_iff_le, gt_iff_lt] at *)) <;> (first | omega | ((simp (disch := omega) only [bm32] at *) <;> omega)))
      subst this
      simp only [if_pos hc]
      exact ⟨trivial, T, trivial, h.ci.tok, Nat.le_refl _, CkFr.of rfl rfl (fun _ _ => rfl) (fun _ _ => rfl), fun _ => h⟩
    simp only [if_neg hc]
    by_cases hf : σ.1 34 = 0
    · simp only [if_pos hf]
      obtain ⟨c, rfl⟩ : ∃ k, c = k + 1 := ⟨c - 1, by ((try (simp only [vp_in, Int32.toNatClampNeg, Int32.lt_iff_toInt_lt, Int32.le_iff_toInt_le, ← Int32.toInt_inj, Int32.toInt_add, Int32.toInt_sub, Int32.toInt_mul, Int32.reduceToInt, i32_neg1, Nat.reducePow, Int.reducePow, ne_eq, ge_iff_le, gt_iff_lt] at *)) <;> (first | omega | ((simp (disch := omega) only [bm32] at *) <;> omega)))⟩
      obtain ⟨s, T', t1, t2, fr, good⟩ := step_any h hf (n := n) (by omega)
      generalize F_Mo_checkStep n σ = σ' at *
      by_cases hf' : σ'.1 34 = 0
      · obtain ⟨c', ci, hmu⟩ := good hf'
        have h' := h.next t2 fr ci
        obtain ⟨r1, T2, r2, r3, r4, r5, r6⟩ := ih (mu A σ' c') (by omega) σ' c' T' n h' (Nat.le_refl _) (by omega)
        exact ⟨⟨s, r1⟩, T2, r2, r3, by omega, fr.trans t2 r5, r6⟩
      · obtain ⟨n, rfl⟩ : ∃ k, n = k + 1 := ⟨n - 1, by omega⟩
        have e1 : S_Mo_check_93 (n + 1) σ' x1 x2 := by simp only [S_Mo_check_93, if_neg hf', ite_self]
        have e2 : F_Mo_check_93 (n + 1) σ' x1 x2 = (σ', x1, x2) := by simp only [F_Mo_check_93, if_neg hf', ite_self]
        rw [e2]
        exact ⟨⟨s, e1⟩, T', rfl, t1, t2, fr, fun h => absurd h hf'⟩
    · simp only [if_neg hf]
      exact ⟨trivial, T, trivial, h.ci.tok, Nat.le_refl _, CkFr.of rfl rfl (fun _ _ => rfl) (fun _ _ => rfl), fun h => absurd h hf⟩
end
section
theorem parts_a {A : Nat → Nat → Int32} {n : Nat} (h : 4 ≤ (A 5 n).toInt) (h2 : (A 5 n).toInt ≤ 11) : (A 9 n).toInt.toNat ∈ parts A n := by
  unfold parts
  split
  · omega
  split
  · simp [si_1, si_2, sl_1, sl_2, sl_3, ai_1, ai_2, ai_3, ai_4, al_1, al_2, al_3, al_4]
  split
  · simp [si_1, si_2, sl_1, sl_2, sl_3, ai_1, ai_2, ai_3, ai_4, al_1, al_2, al_3, al_4]
  split
  · simp [si_1, si_2, sl_1, sl_2, sl_3, ai_1, ai_2, ai_3, ai_4, al_1, al_2, al_3, al_4]
  · simp [si_1, si_2, sl_1, sl_2, sl_3, ai_1, ai_2, ai_3, ai_4, al_1, al_2, al_3, al_4]
theorem parts_b {A : Nat → Nat → Int32} {n : Nat} (h : (A 5 n).toInt = 4 ∨ (A 5 n).toInt = 5 ∨ (A 5 n).toInt = 6 ∨ (A 5 n).toInt = 8 ∨ (A 5 n).toInt = 9 ∨ (A 5 n).toInt = 10) : (A 10 n).toInt.toNat ∈ parts A n := by
  unfold parts
  split
  · omega
  split
  · omega
  split
  · simp [si_1, si_2, sl_1, sl_2, sl_3, ai_1, ai_2, ai_3, ai_4, al_1, al_2, al_3, al_4]
  split
  · simp [si_1, si_2, sl_1, sl_2, sl_3, ai_1, ai_2, ai_3, ai_4, al_1, al_2, al_3, al_4]
  · simp [si_1, si_2, sl_1, sl_2, sl_3, ai_1, ai_2, ai_3, ai_4, al_1, al_2, al_3, al_4]
theorem parts_c {A : Nat → Nat → Int32} {n : Nat} (h : (A 5 n).toInt = 6) : (A 11 n).toInt.toNat ∈ parts A n := by
  unfold parts
  split
  · omega
  split
  · omega
  · simp [si_1, si_2, sl_1, sl_2, sl_3, ai_1, ai_2, ai_3, ai_4, al_1, al_2, al_3, al_4, h]
theorem parts_q {A : Nat → Nat → Int32} {n q : Nat} (h : (A 5 n).toInt = 8) (h1 : (A 14 n).toInt.toNat ≤ q) (h2 : q < (A 14 n).toInt.toNat + (A 15 n).toInt.toNat) : (A 19 q).toInt.toNat ∈ parts A n := by
  unfold parts
  split
  · omega
  split
  · omega
  split
  · omega
  simp only [List.mem_cons, List.mem_map, List.mem_range]
  exact Or.inr (Or.inr ⟨q - (A 14 n).toInt.toNat, by omega, by congr 3; omega⟩)
/-- the typing only looks at the nodes and clauses that were told -/
theorem Ty.tell {A B : Nat → Nat → Int32} {P : Facts} {tk gv : Nat → Nat} {N C : Nat} (hp : ∀ n, n < N → ∀ p, p ∈ parts A n → p < n) (hc : ∀ n, n < N → (A 5 n).toInt = 8 → (A 14 n).toInt.toNat + (A 15 n).toInt.toNat ≤ C)
    (e : ∀ k i, 5 ≤ k → k ≤ 15 → i < N → B k i = A k i) (e2 : ∀ k j, 16 ≤ k → k ≤ 19 → j < C → B k j = A k j) {g : Nat → Int} {n t : Nat} (h : Ty A P tk gv g n t) : n < N → Ty B P tk gv g n t := by
  have ea := fun k n (h1 : 5 ≤ k) (h2 : k ≤ 15) (hn : n < N) => e k n h1 h2 hn
  induction h using Ty.ind with
  | num h => intro hn; exact .num (by rw [ea 5 _ (by omega) (by omega) hn]; exact h)
  | tru h => intro hn; exact .tru (by rw [ea 5 _ (by omega) (by omega) hn]; exact h)
  | uni h => intro hn; exact .uni (by rw [ea 5 _ (by omega) (by omega) hn]; exact h)
  | nam h g => intro hn; exact .nam (by rw [ea 5 _ (by omega) (by omega) hn]; exact h) (by rw [ea 6 _ (by omega) (by omega) hn]; exact g)
  | @lett g n t u h _ _ i1 i2 =>
    intro hn
    have q1 := hp n hn _ (parts_a (by omega) (by omega))
    have q2 := hp n hn _ (parts_b (by omega))
    refine .lett (t := t) (by rw [ea 5 _ (by omega) (by omega) hn]; exact h) ?_ ?_
    · rw [ea 9 _ (by omega) (by omega) hn]; exact i1 (by omega)
    · rw [ea 6 _ (by omega) (by omega) hn, ea 10 _ (by omega) (by omega) hn]; exact i2 (by omega)
  | @rek g n f a r t u h h8 hf _ hr _ i1 i2 =>
    intro hn
    have q1 := hp n hn _ (parts_a (by omega) (by omega))
    have q2 := hp n hn _ (parts_b (by omega))
    refine .rek (f := f) (a := a) (r := r) (t := t) (by rw [ea 5 _ (by omega) (by omega) hn]; exact h) (by rw [ea 8 _ (by omega) (by omega) hn]; exact h8) hf ?_ hr ?_
    · rw [ea 6 _ (by omega) (by omega) hn, ea 7 _ (by omega) (by omega) hn, ea 9 _ (by omega) (by omega) hn]; exact i1 (by omega)
    · rw [ea 6 _ (by omega) (by omega) hn, ea 10 _ (by omega) (by omega) hn]; exact i2 (by omega)
  | @ite g n t h _ _ _ i1 i2 i3 =>
    intro hn
    have q1 := hp n hn _ (parts_a (by omega) (by omega))
    have q2 := hp n hn _ (parts_b (by omega))
    have q3 := hp n hn _ (parts_c (by omega))
    refine .ite (by rw [ea 5 _ (by omega) (by omega) hn]; exact h) ?_ ?_ ?_
    · rw [ea 9 _ (by omega) (by omega) hn]; exact i1 (by omega)
    · rw [ea 10 _ (by omega) (by omega) hn]; exact i2 (by omega)
    · rw [ea 11 _ (by omega) (by omega) hn]; exact i3 (by omega)
  | @fn g n r a t h h7 _ hf i1 =>
    intro hn
    have q1 := hp n hn _ (parts_a (by omega) (by omega))
    refine .fn (t := t) (a := a) (by rw [ea 5 _ (by omega) (by omega) hn]; exact h) (by rw [ea 7 _ (by omega) (by omega) hn]; exact h7) ?_ hf
    rw [ea 6 _ (by omega) (by omega) hn, ea 9 _ (by omega) (by omega) hn]; exact i1 (by omega)
  | @han g n t u ks us h _ _ hk _ hu i1 i2 i3 =>
    intro hn
    have q1 := hp n hn _ (parts_a (by omega) (by omega))
    have q2 := hp n hn _ (parts_b (by omega))
    have qc := hc n hn h
    have e5 := ea 5 n (by omega) (by omega) hn
    have e14 := ea 14 n (by omega) (by omega) hn
    have e15 := ea 15 n (by omega) (by omega) hn
    refine .han (t := t) ks us (by rw [e5]; exact h) ?_ ?_ ?_ ?_ ?_
    · rw [ea 9 _ (by omega) (by omega) hn]; exact i1 (by omega)
    · rw [ea 6 _ (by omega) (by omega) hn, ea 10 _ (by omega) (by omega) hn]; exact i2 (by omega)
    · rw [e14, e15]; intro q h1 h2; rw [e2 16 q (by omega) (by omega) (by omega)]; exact hk q h1 h2
    · rw [e14, e15]; intro q h1 h2
      have q3 := hp n hn _ (parts_q h h1 h2)
      rw [e2 16 q (by omega) (by omega) (by omega), e2 17 q (by omega) (by omega) (by omega), e2 18 q (by omega) (by omega) (by omega), e2 19 q (by omega) (by omega) (by omega)]
      exact i3 q h1 h2 (by omega)
    · rw [e14, e15]; exact hu
  | @two g n h _ _ i1 i2 =>
    intro hn
    have q1 := hp n hn _ (parts_a (by omega) (by omega))
    have q2 := hp n hn _ (parts_b (by omega))
    rw [← ea 6 _ (by omega) (by omega) hn]
    refine .two (by rw [ea 5 _ (by omega) (by omega) hn]; exact h) ?_ ?_
    · rw [ea 9 _ (by omega) (by omega) hn]; exact i1 (by omega)
    · rw [ea 10 _ (by omega) (by omega) hn]; exact i2 (by omega)
  | @cal g n f a r t h _ hf _ ht i1 i2 =>
    intro hn
    have q1 := hp n hn _ (parts_a (by omega) (by omega))
    have q2 := hp n hn _ (parts_b (by omega))
    refine .cal (f := f) (a := a) (t := t) (by rw [ea 5 _ (by omega) (by omega) hn]; exact h) ?_ hf ?_ ht
    · rw [ea 9 _ (by omega) (by omega) hn]; exact i1 (by omega)
    · rw [ea 10 _ (by omega) (by omega) hn]; exact i2 (by omega)
  | @per g n t h _ ht i1 =>
    intro hn
    have q1 := hp n hn _ (parts_a (by omega) (by omega))
    rw [← ea 6 _ (by omega) (by omega) hn] at ht ⊢
    refine .per (t := t) (by rw [ea 5 _ (by omega) (by omega) hn]; exact h) ?_ ht
    rw [ea 9 _ (by omega) (by omega) hn]; exact i1 (by omega)
end
section
def FactsOk (P : Facts) : Prop := (∀ f a r a' r', P.fn f a r → P.fn f a' r' → a = a' ∧ r = r') ∧ (∀ f a r, P.fn f a r → 3 ≤ f) ∧ (∀ t u, P.fit t u → t = u ∨ ∃ a r a' r', P.fn t a r ∧ P.fn u a' r' ∧ P.fit a' a ∧ P.fit r r')
theorem FactsOk.un {P : Facts} (self : FactsOk P) : ∀ f a r a' r', P.fn f a r → P.fn f a' r' → a = a' ∧ r = r' := self.1
theorem FactsOk.ge {P : Facts} (self : FactsOk P) : ∀ f a r, P.fn f a r → 3 ≤ f := self.2.1
theorem FactsOk.fit {P : Facts} (self : FactsOk P) : ∀ t u, P.fit t u → t = u ∨ ∃ a r a' r', P.fn t a r ∧ P.fn u a' r' ∧ P.fit a' a ∧ P.fit r r' := self.2.2
theorem FactsOk.of {σ : mSt} {T : Nat} (h : TOk σ T) : FactsOk (facts σ T) := by
  refine ⟨fun f a r a' r' ⟨_, _, h1, h2⟩ ⟨_, _, h3, h4⟩ => ⟨h1.symm.trans h3, h2.symm.trans h4⟩, fun f a r h => h.1, fun t u ⟨h1, h2, h3⟩ => ?_⟩
  rcases (h.fit t u h1 h2).mp h3 with e | ⟨g1, g2, g3, g4, _⟩
  · exact Or.inl e
  · have b1 := h.tb t g1 h1
    have b2 := h.tb u g2 h2
    unfold TB at b1 b2
    exact Or.inr ⟨_, _, _, _, ⟨g1, h1, rfl, rfl⟩, ⟨g2, h2, rfl, rfl⟩, ⟨by unfold Ta; omega, by unfold Ta; omega, g3⟩, ⟨by unfold Tr; omega, by unfold Tr; omega, g4⟩⟩
/-- the program that was checked -/
def Prog (A : Nat → Nat → Int32) (N p : Nat) : Prop := p < N ∧ (A 12 p).toInt ≤ 400 ∧ (A 13 p).toInt ≤ 40 ∧ ∃ P tk gv t, FactsOk P ∧ Ty A P tk gv (fun _ => -1) p t
/-- what check leaves -/
def Checked (σ : mSt) (N C R T : Nat) (x : Int32) (w : Int32 × mSt) : Prop := (∃ T', T ≤ T' ∧ T' ≤ 63 ∧ TOk w.2 T' ∧ NOk w.2 N C R T' ∧ EOk w.2 T') ∧ ((w.2 = mo_si σ 4 1 ∨ w.2 = mo_si σ 4 2) ∨ (w.2.1 46 = 0 ∧ (w.2.1 36 = -1 ∨ (w.2.1 36 = x ∧ 0 ≤ x.toInt ∧ Prog w.2.2.2.1 N x.toInt.toNat))))
theorem Checked.T {σ : mSt} {N C R T : Nat} {x : Int32} {w : Int32 × mSt} (self : Checked σ N C R T x w) : ∃ T', T ≤ T' ∧ T' ≤ 63 ∧ TOk w.2 T' ∧ NOk w.2 N C R T' ∧ EOk w.2 T' := self.1
theorem Checked.r {σ : mSt} {N C R T : Nat} {x : Int32} {w : Int32 × mSt} (self : Checked σ N C R T x w) : (w.2 = mo_si σ 4 1 ∨ w.2 = mo_si σ 4 2) ∨ (w.2.1 46 = 0 ∧ (w.2.1 36 = -1 ∨ (w.2.1 36 = x ∧ 0 ≤ x.toInt ∧ Prog w.2.2.2.1 N x.toInt.toNat))) := self.2
theorem EOk.congr {σ σ' : mSt} {T T' : Nat} (h : EOk σ T) (hT : T ≤ T') (e : ∀ k, 24 ≤ k → k ≤ 25 → σ'.2.2.1 k = σ.2.2.1 k) : EOk σ' T' := by
  intro i hi
  have := h i hi
  rw [e 24 (by omega) (by omega), e 25 (by omega) (by omega)]
  unfold Is at *
  omega
theorem begin_f {σ : mSt} {k : Nat} (hk : k < 44) : (F_Mo_begin σ).1 k = σ.1 k := by
  simp only [F_Mo_begin, sl_1, si_1]
  repeat rw [if_neg (by omega)]
theorem begin_a {σ : mSt} : (F_Mo_begin σ).2.2 = σ.2.2 := rfl
theorem TOk.si {σ : mSt} {T k : Nat} {x : Int32} (h : TOk σ T) (hk : k ≠ 3) : TOk (mo_si σ k x) T := h.congr (by rw [si_1, if_neg (by omega)]) (fun _ _ _ => rfl)
theorem NOk.si {σ : mSt} {N C R T k : Nat} {x : Int32} (h : NOk σ N C R T) (hk : 3 ≤ k) : NOk (mo_si σ k x) N C R T := h.congr (Nat.le_refl _) (fun j _ => by rw [si_1, if_neg (by omega)]) (fun _ _ _ => rfl)
theorem check_ok {σ : mSt} {N C R T : Nat} (hT : TOk σ T) (hT63 : T ≤ 63) (hN : NOk σ N C R T) (hE : EOk σ T) {x : Int32} {n : Nat} (hn : 3000 ≤ n) : S_Mo_check n σ x ∧ Checked σ N C R T x (F_Mo_check n σ x) := by
  have same : ∀ z : Int32, ∃ T', T ≤ T' ∧ T' ≤ 63 ∧ TOk (mo_si σ 4 z) T' ∧ NOk (mo_si σ 4 z) N C R T' ∧ EOk (mo_si σ 4 z) T' := fun z => ⟨T, Nat.le_refl _, hT63, hT.si4, hN.si (by omega), hE⟩
  simp only [S_Mo_check, F_Mo_check, mbind_eq, isNode_F hN.n]
  by_cases hx : Is N x
  rotate_left
  · simp only [if_neg hx, if_true, S_Mo_check_j41, F_Mo_check_j41, si_1, show ¬ ((1 : Int32) = 0) by decide, if_false]
    exact ⟨⟨isNode_S _ _, trivial⟩, same 1, Or.inl (Or.inl rfl)⟩
  have hnn := hN.hn
  have vx : vp_in x 200 := by unfold Is at hx; ((try (simp only [vp_in, Int32.toNatClampNeg, Int32.lt_iff_toInt_lt, Int32.le_iff_toInt_le, ← Int32.toInt_inj, Int32.toInt_add, Int32.toInt_sub, Int32.toInt_mul, Int32.reduceToInt, i32_neg1, Nat.reducePow, Int.reducePow, ne_eq, ge_iff_le, gt_iff_lt] at *)) <;> (first | omega | ((simp (disch := omega) only [bm32] at *) <;> omega)))
  simp only [if_pos hx, show ¬ ((1 : Int32) = 0) by decide, if_false]
  have j36 : S_Mo_check_j36 n σ x ∧ F_Mo_check_j36 n σ x = (0, mo_si σ 4 2) := by
    simp only [S_Mo_check_j36, F_Mo_check_j36, S_Mo_check_j41, F_Mo_check_j41, si_1, if_true, show ¬ ((2 : Int32) = 0) by decide, if_false, and_self]
  have xN : x.toNatClampNeg = x.toInt.toNat := rfl
  rw [xN]
  by_cases h12 : 400 < σ.2.2.1 12 x.toInt.toNat
  · simp only [if_pos h12, j36.2]
    exact ⟨⟨isNode_S _ _, vx, j36.1⟩, same 2, Or.inl (Or.inr rfl)⟩
  simp only [if_neg h12]
  by_cases h13 : σ.2.2.1 13 x.toInt.toNat ≤ 40
  rotate_left
  · simp only [if_neg h13, j36.2]
    exact ⟨⟨isNode_S _ _, vx, vx, j36.1⟩, same 2, Or.inl (Or.inr rfl)⟩
  simp only [if_pos h13]
  have z1 : (σ.2.2.1 12 x.toInt.toNat).toInt ≤ 400 := by clear hN hT; ((try (simp only [vp_in, Int32.toNatClampNeg, Int32.lt_iff_toInt_lt, Int32.le_iff_toInt_le, ← Int32.toInt_inj, Int32.toInt_add, Int32.toInt_sub, Int32.toInt_mul, Int32.reduceToInt, i32_neg1, Nat.reducePow, Int.reducePow, ne_eq, ge_iff_le, gt_iff_lt] at *)) <;> (first | omega | ((simp (disch := omega) only [bm32] at *) <;> omega)))
  have z2 : (σ.2.2.1 13 x.toInt.toNat).toInt ≤ 40 := by clear hN hT; ((try (simp only [vp_in, Int32.toNatClampNeg, Int32.lt_iff_toInt_lt, Int32.le_iff_toInt_le, ← Int32.toInt_inj, Int32.toInt_add, Int32.toInt_sub, Int32.toInt_mul, Int32.reduceToInt, i32_neg1, Nat.reducePow, Int.reducePow, ne_eq, ge_iff_le, gt_iff_lt] at *)) <;> (first | omega | ((simp (disch := omega) only [bm32] at *) <;> omega)))
  have xx : 0 ≤ x.toInt ∧ x.toInt < N := hx
  simp only [S_Mo_check_j41, F_Mo_check_j41, si_1, if_true, mbind_eq, show ¬ ((3 : Nat) = 4) by decide, if_false]
  have tab := TabOk.of hN
  -- the first entry
  generalize hs0 : mo_si (mo_si (mo_si (mo_si (mo_si (mo_si (mo_si σ 4 0) 34 0) 35 (-1)) 39 1) 36 (-1)) 46 0) 31 0 = σ0
  have f0 : ∀ k, k < 4 → σ0.1 k = σ.1 k := by
    intro k hk; rw [← hs0]; simp only [si_1]; repeat rw [if_neg (by omega)]
  have a0 : σ0.2 = σ.2 := by rw [← hs0]; rfl
  have t0 : TOk σ0 T := hT.congr (f0 3 (by omega)) (fun k _ _ => by rw [a0])
  have n0 : NOk σ0 N C R T := hN.congr (Nat.le_refl _) (fun k hk => f0 k (by omega)) (fun k _ _ => by rw [a0])
  have e0 : EOk σ0 T := hE.congr (Nat.le_refl _) (fun k _ _ => by rw [a0])
  have p0 : σ0.1 36 = -1 := by rw [← hs0]; simp [si_1, si_2, sl_1, sl_2, sl_3, ai_1, ai_2, ai_3, ai_4, al_1, al_2, al_3, al_4]
  have q0 : σ0.1 46 = 0 := by rw [← hs0]; simp [si_1, si_2, sl_1, sl_2, sl_3, ai_1, ai_2, ai_3, ai_4, al_1, al_2, al_3, al_4]
  have r0 : σ0.1 34 = 0 := by rw [← hs0]; simp [si_1, si_2, sl_1, sl_2, sl_3, ai_1, ai_2, ai_3, ai_4, al_1, al_2, al_3, al_4]
  have c0 : (σ0.1 31).toInt = 0 := by rw [← hs0]; simp [si_1, si_2, sl_1, sl_2, sl_3, ai_1, ai_2, ai_3, ai_4, al_1, al_2, al_3, al_4]
  clear hs0
  obtain ⟨si, ip⟩ := into_ok (c := 0) (σ := σ0) (by omega) c0 (n := n) (by omega) (x := x)
  generalize F_Mo_into n σ0 x = σ1 at *
  have fr1 : CkFr T σ0 σ1 := CkFr.of ip.l ip.ll (fun k hk => ip.f k (by omega)) (fun k hk => ip.a k (by omega))
  have t1 : TOk σ1 T := t0.congr (ip.f 3 (by decide)) (fun k _ _ => ip.a k (by omega))
  have en0 : en σ1 0 = x.toInt.toNat := by unfold en; rw [ip.nd]
  have es0 : es σ1 0 = 0 := by unfold es; rw [ip.st]; rfl
  have row0 : row σ1 0 = fun _ => -1 := by
    funext k; unfold row; split
    · rename_i hk; have := ip.new k hk; rw [this]; rfl
    · rfl
  have arr : ∀ k, 5 ≤ k → k ≤ 19 → σ1.2.2.1 k = σ.2.2.1 k := fun k _ _ => by rw [ip.a k (by omega), a0]
  have pn := pot_new tab (m := x.toInt.toNat) (by omega) (by omega)
  have hlo := hT.lo
  have ci : CI σ.2.2.1 (fun e => (σ.2.2.1 24 e).toInt.toNat) (fun e => (σ.2.2.1 25 e).toInt.toNat) N x.toInt.toNat σ1 1 T := by
    refine ⟨t1, arr, ip.f31, ?_, ?_, ?_, ?_, ?_, ?_, ?_, fun _ => ⟨en0, row0⟩, ?_, fun h => absurd h (by decide), ?_⟩
    · intro i hi; have : i = 0 := by omega
      subst this; rw [ip.nd]; exact xx
    · intro i hi; have : i = 0 := by omega
      subst this; rw [ip.st]; simp [si_1, si_2, sl_1, sl_2, sl_3, ai_1, ai_2, ai_3, ai_4, al_1, al_2, al_3, al_4]
    · intro i hi; have : i = 0 := by omega
      subst this; rw [en0]; omega
    · intro i hi; have : i = 0 := by omega
      subst this; rw [en0]; omega
    · intro i hi; have : i = 0 := by omega
      subst this; rw [ip.ty]; decide
    · intro i hi k hk; have : i = 0 := by omega
      subst this
      have := ip.new k hk
      rw [this, if_pos rfl]; simp only [i32_neg1]; omega
    · intro i hi; omega
    · intro i hi; have : i = 0 := by omega
      subst this; exact Or.inl es0
    · simp only [sumTo, en0, es0]; omega
  have si1 : SI σ.2.2.1 (fun e => (σ.2.2.1 24 e).toInt.toNat) (fun e => (σ.2.2.1 25 e).toInt.toNat) N C R x.toInt.toNat σ1 1 T := by
    refine ⟨ci, n0.congr (Nat.le_refl _) (fun k hk => ip.f k (by omega)) (fun k _ _ => ip.a k (by omega)), fun e he => ?_, tab⟩
    have := hE e he
    unfold Is at this
    rw [ip.a 24 (by omega), ip.a 25 (by omega), a0]
    dsimp only
    omega
  have hmu : mu σ.2.2.1 σ1 1 ≤ 1000 := by simp only [mu, sumTo, en0, es0]; omega
  obtain ⟨s2, T', g1, g2, g3, g4, g5⟩ := check_93_ok (x1 := x) (x2 := σ.1 3) 1000 σ1 1 T n si1 hmu (by omega)
  generalize hw : F_Mo_check_93 n σ1 x (σ.1 3) = w at *
  obtain ⟨σ2, w2⟩ := w
  simp only at g1 g2 g4 g5 ⊢
  subst g1
  simp only
  have fr2 : CkFr T σ0 σ2 := fr1.trans (Nat.le_refl _) g4
  have n2 : ∀ T'', T ≤ T'' → NOk σ2 N C R T'' := fun T'' h => n0.congr h (fun k hk => fr2.f k (by omega) (by omega) (by omega)) (fun k h1 h2 => fr2.a k (by omega) (by omega))
  have e2 : ∀ T'', T ≤ T'' → EOk σ2 T'' := fun T'' h => e0.congr h (fun k h1 h2 => fr2.a k (by omega) (by omega))
  have p2 : σ2.1 36 = -1 := by rw [fr2.f 36 (by omega) (by omega) (by omega)]; exact p0
  have arr2 : ∀ k, 5 ≤ k → k ≤ 19 → σ2.2.2.1 k = σ.2.2.1 k := fun k _ _ => by rw [fr2.a k (by omega) (by omega), a0]
  have x3 : (σ.1 3).toInt = T := hT.n
  -- the end, with a fault
  have bad : ∀ σ3 : mSt, σ3.1 34 ≠ 0 → (∀ k, k ≠ 34 → σ3.1 k = σ2.1 k) → σ3.2 = σ2.2 → ∀ z, S_Mo_check_j149 n σ3 x (σ.1 3) z ∧ Checked σ N C R T x (F_Mo_check_j149 n σ3 x (σ.1 3) z) := by
    intro σ3 h34 hf h2 z
    have b34 : (F_Mo_begin (mo_si σ3 4 z)).1 34 ≠ 0 := by rw [begin_f (by omega), si_1, if_neg (by omega)]; exact h34
    simp only [S_Mo_check_j149, F_Mo_check_j149, mbind_eq, si_1, show ¬ (34 = 46) by decide, if_false, if_neg b34]
    refine ⟨⟨trivial, trivial⟩, ⟨T, Nat.le_refl _, hT63, ?_, ?_, ?_⟩, Or.inr ⟨by simp [si_1, si_2, sl_1, sl_2, sl_3, ai_1, ai_2, ai_3, ai_4, al_1, al_2, al_3, al_4], Or.inl ?_⟩⟩
    · have b := fr2.back g3 t0 g2 (x := σ.1 3) x3
      exact b.congr (by simp [si_1, si_2, sl_1, sl_2, sl_3, ai_1, ai_2, ai_3, ai_4, al_1, al_2, al_3, al_4]) (fun k _ _ => by simp only [si_2, begin_a, h2])
    · refine (n2 T (Nat.le_refl _)).congr (Nat.le_refl _) (fun k hk => ?_) (fun k _ _ => by simp only [si_2, begin_a, h2])
      rw [si_1, if_neg (by omega), si_1, if_neg (by omega), begin_f (by omega), si_1, if_neg (by omega), hf k (by omega)]
    · exact (e2 T (Nat.le_refl _)).congr (Nat.le_refl _) (fun k _ _ => by simp only [si_2, begin_a, h2])
    · simp only
      rw [si_1, if_neg (by omega), si_1, if_neg (by omega), begin_f (by omega), si_1, if_neg (by omega), hf 36 (by omega)]; exact p2
  have fin : S_Mo_check_j114 n σ2 x (σ.1 3) ∧ Checked σ N C R T x (F_Mo_check_j114 n σ2 x (σ.1 3)) := by
    simp only [S_Mo_check_j114, F_Mo_check_j114, S_Mo_check_j136, F_Mo_check_j136]
    by_cases hf : σ2.1 34 = 0
    rotate_left
    · simp only [if_neg hf]
      exact bad σ2 hf (fun _ _ => rfl) rfl 3
    simp only [if_pos hf]
    by_cases h63 : σ2.1 3 ≤ 63
    rotate_left
    · simp only [if_neg h63, si_1, if_true, show ¬ ((9 : Int32) = 0) by decide, if_false]
      exact bad (mo_si σ2 34 9) (by simp [si_1, si_2, sl_1, sl_2, sl_3, ai_1, ai_2, ai_3, ai_4, al_1, al_2, al_3, al_4]) (fun k hk => by simp [si_1, si_2, sl_1, sl_2, sl_3, ai_1, ai_2, ai_3, ai_4, al_1, al_2, al_3, al_4, hk]) rfl 3
    simp only [if_pos h63]
    have b34 : (F_Mo_begin (mo_si σ2 4 0)).1 34 = 0 := by rw [begin_f (by omega), si_1, if_neg (by omega)]; exact hf
    simp only [S_Mo_check_j149, F_Mo_check_j149, mbind_eq, si_1, show ¬ (34 = 46) by decide, if_false, if_pos b34]
    have T63 : T' ≤ 63 := by have := g2.n; clear hN n0 n2 si1 ci g5; ((try (simp only [vp_in, Int32.toNatClampNeg, Int32.lt_iff_toInt_lt, Int32.le_iff_toInt_le, ← Int32.toInt_inj, Int32.toInt_add, Int32.toInt_sub, Int32.toInt_mul, Int32.reduceToInt, i32_neg1, Nat.reducePow, Int.reducePow, ne_eq, ge_iff_le, gt_iff_lt] at *)) <;> (first | omega | ((simp (disch := omega) only [bm32] at *) <;> omega)))
    have done := (g5 hf).ci.done rfl
    refine ⟨⟨trivial, trivial⟩, ⟨T', g3, T63, ?_, ?_, ?_⟩, Or.inr ⟨?_, Or.inr ⟨?_, xx.1, ?_⟩⟩⟩
    · refine g2.congr ?_ (fun k _ _ => by simp only [si_2, begin_a])
      simp only [si_1]; repeat rw [if_neg (by omega)]
      rw [begin_f (by omega), si_1, if_neg (by omega)]
    · refine (n2 T' g3).congr (Nat.le_refl _) (fun k hk => ?_) (fun k _ _ => by simp only [si_2, begin_a])
      simp only [si_1]; repeat rw [if_neg (by omega)]
      rw [begin_f (by omega), si_1, if_neg (by omega)]
    · exact (e2 T' g3).congr (Nat.le_refl _) (fun k _ _ => by simp only [si_2, begin_a])
    · simp [si_1, si_2, sl_1, sl_2, sl_3, ai_1, ai_2, ai_3, ai_4, al_1, al_2, al_3, al_4]
    · simp [si_1, si_2, sl_1, sl_2, sl_3, ai_1, ai_2, ai_3, ai_4, al_1, al_2, al_3, al_4]
    · simp only [si_2, begin_a]
      have hA : ∀ k, 5 ≤ k → k ≤ 19 → σ2.2.2.1 k = σ.2.2.1 k := arr2
      obtain ⟨t, d1, d2, d3⟩ := done
      refine ⟨by omega, by rw [hA 12 (by omega) (by omega)]; exact z1, by rw [hA 13 (by omega) (by omega)]; exact z2, facts σ2 T', (fun e => (σ.2.2.1 24 e).toInt.toNat), (fun e => (σ.2.2.1 25 e).toInt.toNat), t, FactsOk.of g2, ?_⟩
      exact d1.tell (N := N) (C := C) (fun n hn p hp => (tab.part n hn p hp).1) (fun n hn h8 => by have c1 := (hN.nd n hn).cf h8; have c2 := (hN.nd n hn).cm; omega) (fun k i h1 h2 _ => by rw [hA k (by omega) (by omega)]) (fun k i h1 h2 _ => by rw [hA k (by omega) (by omega)]) (by omega)
  exact ⟨⟨isNode_S _ _, vx, vx, si, s2, fin.1⟩, fin.2⟩
end
