-- pure rows: IO
section
/-! pure rows: both machines run -/
theorem i32_inc {a b : Int32} {m : Nat} (h : a - b = nI m) : a + 1 - b = nI (m + 1) := by
  have e : a + 1 - b = (a - b) + 1 := by
    apply Int32.toBitVec_inj.mp
    simp only [Int32.toBitVec_sub, Int32.toBitVec_add]
    bv_omega
  rw [e, h, nI_succ]
theorem i32_ne1 {a b : Int32} (h : b = a) (g : b = a + 1) : False := by
  rw [h] at g
  have := congrArg Int32.toBitVec g
  simp only [Int32.toBitVec_add] at this
  have z : (1 : Int32).toBitVec = 1#32 := rfl
  rw [z] at this
  bv_omega
section
variable {cs : Nat → ClassId} {lim dE : Nat × Nat} {A : Ad} {r1 r2 NF : Nat} {X : Cx} {G : Nat → Int32} {k4 : Nat} {M M' : gMem} {w w' : Vw} {σ σ' : mSt} {al tk Φ : Nat} {mk : Fr} {ut : Nat} {y x2 : Int32}
theorem loop_steps : ∀ (k : Nat) {M M' : gMem} (nc cnt : Nat) (z : Int32), CSts cs dE A k M M' → z.toInt = cnt → cnt + k ≤ 4000000 → k + 501 ≤ nc → ∃ (z' : Int32) (nc' : Nat), z'.toInt = ((cnt + k : Nat) : Int) ∧ nc' + k = nc ∧ F_Ma_goOnFor_17 cs dE nc M A.ma y z = F_Ma_goOnFor_17 cs dE nc' M' A.ma y z' := by
  intro k
  induction k with
  | zero =>
    intro M M' nc cnt z h hz _ _
    have e : M = M' := h
    subst e
    exact ⟨z, nc, hz, rfl, rfl⟩
  | succ k ih =>
    intro M M' nc cnt z h hz hc hn
    obtain ⟨M1, ⟨a, h4, h13, h10, hw⟩, h2⟩ := h
    obtain ⟨nc, rfl⟩ : ∃ q, nc = q + 1 := ⟨nc - 1, by omega⟩
    have hlt : ¬ (4000000 : Int32) ≤ z := by clear hw h2 ih h4 h13 h10; ((try (simp only [vp_in, Int32.toNatClampNeg, Int32.lt_iff_toInt_lt, Int32.le_iff_toInt_le, ← Int32.toInt_inj, Int32.toInt_add, Int32.toInt_sub, Int32.toInt_mul, Int32.reduceToInt, i32_neg1, Nat.reducePow, Int.reducePow, ne_eq, ge_iff_le, gt_iff_lt] at *)) <;> (first | omega | ((simp (disch := omega) only [bm32] at *) <;> omega)))
    have hz1 : (z + 1).toInt = ((cnt + 1 : Nat) : Int) := by clear hw h2 ih h4 h13 h10 hlt; ((try (simp only [vp_in, Int32.toNatClampNeg, Int32.lt_iff_toInt_lt, Int32.le_iff_toInt_le, ← Int32.toInt_inj, Int32.toInt_add, Int32.toInt_sub, Int32.toInt_mul, Int32.reduceToInt, i32_neg1, Nat.reducePow, Int.reducePow, ne_eq, ge_iff_le, gt_iff_lt] at *)) <;> (first | omega | ((simp (disch := omega) only [bm32] at *) <;> omega)))
    obtain ⟨z', nc', g1, g2, g3⟩ := ih nc (cnt + 1) (z + 1) h2 hz1 (by omega) (by omega)
    refine ⟨z', nc', by rw [g1]; omega, by omega, ?_⟩
    rw [← g3]
    have hnn : ¬ (some a : Option Nat) = none := by simp [si_1, si_2, sl_1, sl_2, sl_3, ai_1, ai_2, ai_3, ai_4, al_1, al_2, al_3, al_4, cp_1, cp_2, cp_3, cp_4]
    have e := hw nc (by omega)
    simp only [F_Ma_goOnFor_17, if_neg hlt, if_pos h4, if_pos h13, h10, if_neg hnn, mbind_eq, Option.getD_some, e]
theorem loop_stop {nc : Nat} {z : Int32} (hn : 1 ≤ nc) (h : cI M A.ma 4 ≠ 1 ∨ cI M A.ma 13 ≠ 0) : F_Ma_goOnFor_17 cs dE nc M A.ma y z = (cI M A.ma 12, M) := by
  obtain ⟨nc, rfl⟩ : ∃ q, nc = q + 1 := ⟨nc - 1, by omega⟩
  simp only [F_Ma_goOnFor_17]
  by_cases h0 : (4000000 : Int32) ≤ z
  · rw [if_pos h0]
  rw [if_neg h0]
  by_cases h4 : cI M A.ma 4 = 1
  · rw [if_pos h4]
    have h13 : ¬ cI M A.ma 13 = 0 := by
      rcases h with q | q
      · exact absurd h4 q
      · exact q
    rw [if_neg h13]
  · rw [if_neg h4]
/-- what both runs leave -/
def LoopR (cs : Nat → ClassId) (lim dE : Nat × Nat) (A : Ad) (r1 r2 NF : Nat) (X : Cx) (G : Nat → Int32) (k4 : Nat) (mk : Fr) (ut al : Nat) (x2 : Int32) (w : mSt × Int32) (cr : Int32 × gMem) : Prop :=
  w.2 = x2 ∧ ∃ tk', tk' ≤ al ∧ w.1.1 47 - x2 = nI tk' ∧ cr.1 = nI tk' ∧ ((w.1.1 46 = 1 ∧ PsA cs lim dE A r1 r2 NF X G k4 mk ut cr.2 w.1 tk' ∧ ∃ Mx, RunOk X w.1 Mx) ∨ FinA cs lim dE A r1 r2 NF G k4 ut cr.2 w.1 tk')
theorem loop_end {n nc cnt : Nat} {z : Int32} {x1 x3 : Int32} (ea : (EnA cs lim dE A r1 r2 NF G k4 ut) M σ' tk Φ) (hn : 1 ≤ n) (ht : tk ≤ al) (h47 : σ'.1 47 - x2 = nI tk) (hz : z.toInt = cnt) (hc : cnt + Φ ≤ 4000000) (hnc : Φ + 600 ≤ nc) : (LoopR cs lim dE A r1 r2 NF X G k4 mk ut) al x2 (F_Mo_run_47 n σ' x1 x2 x3) (F_Ma_goOnFor_17 cs dE nc M A.ma y z) := by
  obtain ⟨k, M1, st, fi, hk⟩ := ea
  have fi0 := fi
  obtain ⟨fa, ta, nf, nt, w, v, e46, -, e4, -, -, -, -, e12, -, -⟩ := fi
  obtain ⟨z', nc', g1, g2, g3⟩ := loop_steps (y := y) k nc cnt z st hz (by omega) (by omega)
  have i4 : cI M1 A.ma 4 = σ'.1 46 := by rw [v.I (Or.inr (Or.inr (Or.inl rfl)))]; exact e4
  have i12 : cI M1 A.ma 12 = nI tk := by rw [v.I (Or.inr (Or.inr (Or.inl rfl)))]; exact e12
  rw [g3, loop_stop (by omega) (Or.inl (by rw [i4]; exact e46)), (run_stop hn (Or.inr e46)).2]
  exact ⟨rfl, tk, ht, h47, i12, Or.inr fi0⟩
theorem loopA (hX : X.Ok) (hmk : mk.node = -1) : ∀ (m n : Nat) (σ : mSt) (M : gMem) (Φ Mx tk nc cnt : Nat) (z : Int32), SimA cs lim dE A r1 r2 NF X G k4 mk ut M σ al tk Φ → RunOk X σ Mx → σ.1 47 - x2 = nI tk → (al - tk) * 50000001 + Mx ≤ m → m + 42200 < n → z.toInt = cnt → cnt + Φ ≤ 4000000 → Φ + 600 ≤ nc → (LoopR cs lim dE A r1 r2 NF X G k4 mk ut) al x2 (F_Mo_run_47 n σ (nI al) x2 1) (F_Ma_goOnFor_17 cs dE nc M A.ma y z) := by
  intro m
  induction m using Nat.strongRecOn with
  | _ m ih =>
  intro n σ M Φ Mx tk nc cnt z sa ok h47 hm hn hz hc hnc
  obtain ⟨S, μ, fa, ta, nf, nt, u, v, own, Lf, Wk, w, W, c, rn, ⟨F, a, L, s, h, r, Fs, b, rest, t, u1, W1, tp, hW, tt⟩, hΦ⟩ := sa
  have le := rn.le
  have en := rn.en
  have ok0 := ok
  obtain ⟨S0, K0, Q0, F0, C0, Z0, T0, U0, D0, run, o⟩ := ok
  have eF : F0 = F := by
    have y1 := run.f44
    have y2 := tp.f44
    omega
  subst eF
  obtain ⟨n, rfl⟩ : ∃ q, n = q + 1 := ⟨n - 1, by omega⟩
  -- both go on
  have goon : ∀ (σ' : mSt) (tk' M' : Nat), (GoA cs lim dE A r1 r2 NF X G k4 mk ut) M σ' al tk' Φ → tk' ≤ al → RunOk X σ' M' → σ'.1 47 - x2 = nI tk' → (al - tk') * 50000001 + M' < (al - tk) * 50000001 + Mx → (LoopR cs lim dE A r1 r2 NF X G k4 mk ut) al x2 (F_Mo_run_47 n σ' (nI al) x2 1) (F_Ma_goOnFor_17 cs dE nc M A.ma y z) := by
    intro σ' tk' Mx' ga htk ok' h47' hlt
    obtain ⟨k, M1, Φ1, st, sa1, hp⟩ := ga
    obtain ⟨z', nc', g1, g2, g3⟩ := loop_steps (y := y) k nc cnt z st hz (by omega) (by omega)
    rw [g3]
    have h1 : (al - tk') * 50000001 + Mx' < m := Nat.lt_of_lt_of_le hlt hm
    have h3 : cnt + k + Φ1 ≤ 4000000 := by clear hlt hm h1; omega
    have h4 : Φ1 + 600 ≤ nc' := by clear hlt hm h1; omega
    clear hlt hm
    generalize hmm : (al - tk') * 50000001 + Mx' = mm at h1
    have h2 : mm + 42200 < n := by clear hmm; omega
    exact ih mm h1 n σ' M1 Φ1 Mx' tk' nc' (cnt + k) z' sa1 ok' h47' (Nat.le_of_eq hmm) h2 g1 h3 h4
  have n30 : ¬ (1 : Int32) = 0 := by decide
  simp only [F_Mo_run_47, if_neg n30, if_pos en, mbind_eq]
  rcases tt with tn | ⟨gv, fs, vr, bk⟩
  · have g51 := tn.1
    rcases o with ⟨o1, -⟩ | ⟨-, nd0, nw, oM⟩
    · exact absurd g51 o1
    rw [if_pos g51]
    have st := (workNode_ok hX run nw (n := n) (by omega)).2
    have e47 : (F_Mo_workNode n σ).1 47 - x2 = nI tk := by rw [st.2.1]; exact h47
    rcases step_now (n := n) hX c rn tp tn hW hΦ (by omega) run nw with ⟨g1, g2⟩ | ⟨g1, g2⟩
    · obtain ⟨Mx', ok', hlt⟩ := st.2.2 g1
      exact goon _ tk Mx' g2 le.1 ok' e47 (by omega)
    · exact loop_end g2 (by omega) le.1 e47 hz hc hnc
  rcases o with ⟨-, hV, oM⟩ | ⟨o1, -⟩
  rotate_left
  · exact absurd o1 gv
  rw [if_neg gv]
  have f44 := tp.f44
  by_cases h44 : σ.1 44 = 0
  · rw [if_pos h44]
    have eF0 : F0 = 0 := by
      rw [h44] at f44
      have y1 : (0 : Int32).toInt = 0 := rfl
      omega
    subst eF0
    exact loop_end (step_done hX hmk c rn tp fs vr bk hW hΦ) (by omega) le.1 (by simp [si_1, si_2, sl_1, sl_2, sl_3, ai_1, ai_2, ai_3, ai_4, al_1, al_2, al_3, al_4, cp_1, cp_2, cp_3, cp_4]; exact h47) hz hc hnc
  rw [if_neg h44, h47, nI_sub (by omega) le.1]
  have hF0 : F0 ≠ 0 := fun q => h44 (Int32.toInt_inj.mp (by rw [f44, q]; rfl))
  obtain ⟨F1, rfl⟩ : ∃ q, F0 = q + 1 := ⟨F0 - 1, by omega⟩
  have gr := step_got (n := n) (x1 := nI (al - tk)) hX hmk c rn tp gv fs vr bk hW hΦ (by omega) (nT (by omega)) hF0 run hV
  obtain ⟨-, co⟩ := comes_ok hX run gv hV (x1 := nI (al - tk)) (n := n) (by omega)
  rcases gr with ⟨e0, wa⟩ | ⟨σ', tk', e1, e2, e3⟩
  · rw [e0]
    simp only
    obtain ⟨k, M1, st, ps, hk⟩ := wa
    have ps0 := ps
    obtain ⟨_, _, fa', ta', nf', nt', _, _, _, _, _, w', _, c', ⟨-, p13, p12, -⟩, -⟩ := ps
    obtain ⟨z', nc', g1, g2, g3⟩ := loop_steps (y := y) k nc cnt z st hz (by omega) (by omega)
    have i13 : cI M1 A.ma 13 = 1 := by rw [c'.vs.I (Or.inr (Or.inr (Or.inl rfl)))]; exact p13
    have i12 : cI M1 A.ma 12 = nI tk := by rw [c'.vs.I (Or.inr (Or.inr (Or.inl rfl)))]; exact p12
    rw [g3, loop_stop (by omega) (Or.inr (by rw [i13]; decide)), (run_stop (by omega) (Or.inl rfl)).2]
    exact ⟨rfl, tk, le.1, h47, i12, Or.inl ⟨en, ps0, Mx, ok0⟩⟩
  · rw [e1] at co ⊢
    simp only at co ⊢
    have n10 : ¬ (1 : Int32) = 0 := by decide
    have h47' : σ'.1 47 - x2 = nI tk' ∧ tk' ≤ al := by
      rcases e2 with ⟨y1, y2⟩ | ⟨⟨y1, y3⟩, y2⟩
      · rw [y1, y2]; exact ⟨h47, le.1⟩
      · rw [y1, y2]; exact ⟨i32_inc h47, y3⟩
    rcases e3 with ⟨g1, g2⟩ | ⟨g1, g2⟩
    · rcases co with ⟨co1, -⟩ | ⟨-, -, co2, co3⟩ | ⟨-, -, -, co2, co3⟩
      · exact absurd (congrArg Prod.fst co1) n10
      · obtain ⟨Mx', ok', hlt⟩ := co3 g1
        rcases e2 with ⟨y1, y2⟩ | ⟨⟨y1, y3⟩, y2⟩
        · exact goon σ' tk' Mx' g2 h47'.2 ok' h47'.1 (by rw [y1]; omega)
        · exact (i32_ne1 co2 y2).elim
      · obtain ⟨Mx', ok'⟩ := co3 g1
        have hM := ok'.le hX
        rcases e2 with ⟨y1, y2⟩ | ⟨⟨y1, y3⟩, y2⟩
        · exact (i32_ne1 y2 co2).elim
        · refine goon σ' tk' Mx' g2 h47'.2 ok' h47'.1 ?_
          rw [y1, show al - tk = (al - (tk + 1)) + 1 by omega]
          omega
    · exact loop_end g2 (by omega) h47'.2 h47'.1 hz hc hnc
end
end
