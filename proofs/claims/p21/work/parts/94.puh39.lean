-- pure rows: IT
section
/-! pure rows: run, class and reference -/
theorem run_j0 {n : Nat} {σ : mSt} {x : Int32} : F_Mo_run_j28 n σ x 0 = ((F_Mo_run_47 n (mo_si σ 4 0) x (σ.1 47) 1).1.1 47 - (F_Mo_run_47 n (mo_si σ 4 0) x (σ.1 47) 1).2, (F_Mo_run_47 n (mo_si σ 4 0) x (σ.1 47) 1).1) := by
  have e4 : (mo_si σ 4 0).1 4 = 0 := by rw [si_1, if_pos rfl]
  have e47 : (mo_si σ 4 0).1 47 = σ.1 47 := by rw [si_1, if_neg (by omega)]
  unfold F_Mo_run_j28
  rw [if_pos e4, e47]
  simp only [mbind_eq]
theorem run_jz {n : Nat} {σ : mSt} {x z : Int32} (h : z ≠ 0) : F_Mo_run_j28 n σ x z = (0, mo_si σ 4 z) := by
  have e4 : ¬ (mo_si σ 4 z).1 4 = 0 := by rw [si_1, if_pos rfl]; exact h
  unfold F_Mo_run_j28
  rw [if_neg e4]
section
variable {cs : Nat → ClassId} {lim dE : Nat × Nat} {A : Ad} {r1 r2 NF : Nat} {X : Cx} {G : Nat → Int32} {k4 : Nat} {M : gMem} {σ σ' : mSt} {mk : Fr} {ut tk : Nat}
theorem FinA.run {x : Int32} (h : FinA cs lim dE A r1 r2 NF G k4 ut M σ tk) : FinA cs lim dE A r1 r2 NF G k4 ut (cP 8 (cP 8 (cP 8 M A.ma 11 (.int x)) A.ma 12 (.int 0)) A.ma 13 (.int 0)) (mo_si σ 4 0) 0 := by
  obtain ⟨fa, ta, nf, nt, w, vs, n1, n0, e4, e6, e7, e8, e9, e12, e5, f5⟩ := h
  have g1 := vs.putN (ci := 8) (k := 11) (x := x) vs.oM (by decide) (by decide) (by decide) (by decide)
  have g2 := g1.putN (ci := 8) (k := 12) (x := 0) g1.oM (by decide) (by decide) (by decide) (by decide)
  have g3 := g2.putN (ci := 8) (k := 13) (x := 0) g2.oM (by decide) (by decide) (by decide) (by decide)
  have M3 : ∀ k, k ≠ 11 → k ≠ 12 → k ≠ 13 → (vpi (vpi (vpi w A.ma 11 x) A.ma 12 0) A.ma 13 0).2.1 A.ma k = w.2.1 A.ma k := fun k a1 a2 a3 => by rw [vpi_i, if_neg (fun z => a3 z.2), vpi_i, if_neg (fun z => a2 z.2), vpi_i, if_neg (fun z => a1 z.2)]
  have S : ∀ k, k ≠ 4 → (mo_si σ 4 0).1 k = σ.1 k := fun k hk => by rw [si_1, if_neg hk]
  unfold FinA
  rw [S 46 (by omega), S 47 (by omega), S 48 (by omega), S 49 (by omega), S 50 (by omega)]
  refine ⟨fa, ta, nf, nt, _, g3, n1, n0, ?_, ?_, ?_, ?_, ?_, ?_, ?_, ?_⟩
  · rw [M3 4 (by decide) (by decide) (by decide)]; exact e4
  · rw [M3 6 (by decide) (by decide) (by decide)]; exact e6
  · rw [M3 7 (by decide) (by decide) (by decide)]; exact e7
  · rw [M3 8 (by decide) (by decide) (by decide)]; exact e8
  · rw [M3 9 (by decide) (by decide) (by decide)]; exact e9
  · rw [vpi_i, if_neg (by omega), vpi_i, if_pos ⟨rfl, rfl⟩]; rfl
  · rw [M3 5 (by decide) (by decide) (by decide)]; exact e5
  · rw [M3 5 (by decide) (by decide) (by decide), M3 3 (by decide) (by decide) (by decide)]; exact f5
theorem McA.s4 (h : McA cs lim dE A r1 r2 NF X G k4 mk ut M σ) : cI M A.ma 4 = σ.1 46 := by
  rcases h with ⟨h46, h4, -⟩ | ⟨h, -⟩ | ⟨tk, h⟩
  · rw [h4, h46]
  · obtain ⟨S, μ, fa, ta, nf, nt, u, v, own, Lf, Wk, w, W, c, ⟨h4, h46⟩, st⟩ := h
    rw [c.vs.I (Or.inr (Or.inr (Or.inl rfl))) 4, h4, h46]
  · obtain ⟨fa, ta, nf, nt, w, vs, n1, n0, e4, -⟩ := h
    rw [vs.I (Or.inr (Or.inr (Or.inl rfl))) 4]
    exact e4
/-- a program has begun -/
def McB (cs : Nat → ClassId) (lim dE : Nat × Nat) (A : Ad) (r1 r2 NF : Nat) (X : Cx) (G : Nat → Int32) (k4 : Nat) (mk : Fr) (ut : Nat) (M : gMem) (σ : mSt) : Prop :=
  (RsA cs lim dE A r1 r2 NF X G k4 mk ut M σ ∧ ∃ Mx, RunOk X σ Mx) ∨ ∃ tk, FinA cs lim dE A r1 r2 NF G k4 ut M σ tk
theorem McB.vt (h : McB cs lim dE A r1 r2 NF X G k4 mk ut M σ) : ∃ fa ta nf nt kf kt w, VT cs dE A G k4 fa ta nf nt kf kt M w := by
  rcases h with ⟨h, -⟩ | ⟨tk, h⟩
  · obtain ⟨S, μ, fa, ta, nf, nt, u, v, own, Lf, Wk, w, W, c, -⟩ := h
    obtain ⟨kf, kt, vt⟩ := c.vs.lite
    exact ⟨fa, ta, nf, nt, kf, kt, w, vt⟩
  · obtain ⟨fa, ta, nf, nt, w, vs, -⟩ := h
    obtain ⟨kf, kt, vt⟩ := vs.lite
    exact ⟨fa, ta, nf, nt, kf, kt, w, vt⟩
/-- run answers as the reference's -/
theorem McA.run {n n2 : Nat} (hX : X.Ok) (hmk : mk.node = -1) (h : McA cs lim dE A r1 r2 NF X G k4 mk ut M σ) (hfl : σ.1 46 = 1 → (cI M A.ma 6).toInt + 1201 ≤ NF) (hx : cQ M A.x 6 = some A.ma) (hn : 4100000 ≤ n) (hn2 : 11000000000 ≤ n2) (x : Int32) :
    ((F_N_run cs dE n M A.x x).1 = 0 ∧ (F_Mo_run n2 σ x).2.1 4 = 0 ∧ (F_N_run cs dE n M A.x x).2.1 = (F_Mo_run n2 σ x).1 ∧ McB cs lim dE A r1 r2 NF X G k4 mk ut (F_N_run cs dE n M A.x x).2.2 (F_Mo_run n2 σ x).2 ∧ σ.1 46 ≠ 0) ∨ ((F_N_run cs dE n M A.x x).1 = 2 ∧ (F_Mo_run n2 σ x).2 = mo_si σ 4 1 ∧ (F_N_run cs dE n M A.x x).2.2 = gsk M) ∨ ((F_N_run cs dE n M A.x x).1 = 3 ∧ (F_Mo_run n2 σ x).2 = mo_si σ 4 2 ∧ (F_N_run cs dE n M A.x x).2.2 = gsk M) := by
  have s4 := h.s4
  have n1 : (1 : Int32) ≠ 0 := by decide
  have n2' : (2 : Int32) ≠ 0 := by decide
  unfold F_N_run F_Mo_run F_Mo_run_j23
  rw [hx]
  simp only [Option.getD_some, mbind_eq]
  by_cases h0 : σ.1 46 = 0
  · have c0 : cI M A.ma 4 = 0 := s4.trans h0
    simp only [if_pos h0, if_pos c0, run_jz n1]
    exact Or.inr (Or.inl ⟨trivial, trivial, trivial⟩)
  have c0 : ¬ cI M A.ma 4 = 0 := fun z => h0 (s4.symm.trans z)
  simp only [if_neg h0, if_neg c0]
  by_cases x0 : x < 0
  · simp only [if_pos x0, run_jz n2']
    exact Or.inr (Or.inr ⟨trivial, trivial, trivial⟩)
  simp only [if_neg x0]
  by_cases x2 : x ≤ 200
  rotate_left
  · simp only [if_neg x2, run_jz n2']
    exact Or.inr (Or.inr ⟨trivial, trivial, trivial⟩)
  simp only [if_pos x2, run_j0]
  have hxx : 0 ≤ x.toInt ∧ x.toInt ≤ 200 := by clear h hfl s4; ((try (simp only [vp_in, Int32.toNatClampNeg, Int32.lt_iff_toInt_lt, Int32.le_iff_toInt_le, ← Int32.toInt_inj, Int32.toInt_add, Int32.toInt_sub, Int32.toInt_mul, Int32.reduceToInt, i32_neg1, Nat.reducePow, Int.reducePow, ne_eq, ge_iff_le, gt_iff_lt] at *)) <;> (first | omega | ((simp (disch := omega) only [bm32] at *) <;> omega)))
  obtain ⟨al, hal⟩ : ∃ al : Nat, x.toInt = al := ⟨x.toInt.toNat, by omega⟩
  have ex : x = nI al := nI_ofT hal (by omega)
  left
  rcases h with ⟨h46, -⟩ | ⟨rs, Mx, ok⟩ | ⟨tk, fi⟩
  · exact absurd h46 h0
  · have h46 : σ.1 46 = 1 ∧ cI M A.ma 6 = σ.1 47 := by
      obtain ⟨S, μ, fa, ta, nf, nt, u, v, own, Lf, Wk, w, W, c, ⟨h4, h46⟩, st⟩ := rs
      exact ⟨h46, by rw [c.vs.I (Or.inr (Or.inr (Or.inl rfl))) 6]; exact c.fu⟩
    have hf := hfl h46.1
    rw [h46.2] at hf
    have hM := ok.le hX
    have ok4 : RunOk X (mo_si σ 4 0) Mx := ok.si4
    have rb := run_both (n := n2) (nc := n) hX hmk rs ok (al := al) (by omega) (by omega) hn2 (by omega)
    have e47 : (nI al - ((mo_si σ 4 0).1 47 - σ.1 47)).toInt = al := by
      rw [si_1, if_neg (by omega), Int32.sub_self, Int32.sub_zero]
      exact nT (by omega)
    have ran := (run_47_ok hX (x1 := nI al) (x2 := σ.1 47) (al * 50000001 + Mx) n2 al (mo_si σ 4 0) 1 Mx ok4 e47 (by omega) (Nat.le_refl _) (by omega)).2
    rw [ex]
    generalize F_Mo_run_47 n2 (mo_si σ 4 0) (nI al) (σ.1 47) 1 = wr at rb ran ⊢
    generalize F_Ma_goOnFor cs dE n M A.ma (nI al) = cr at rb ⊢
    obtain ⟨b1, tk', b2, b3, b4, b5⟩ := rb
    have r4 : wr.1.1 4 = 0 := by rw [ran.1.f 4 (by omega), si_1, if_pos rfl]
    refine ⟨trivial, r4, ?_, ?_, h0⟩
    · show cr.1 = wr.1.1 47 - wr.2
      rw [b1, b3, b4]
    · show McB cs lim dE A r1 r2 NF X G k4 mk ut cr.2 wr.1
      rcases b5 with ⟨c1, c2, c3⟩ | c1
      · exact Or.inl ⟨c2.rs, c3⟩
      · exact Or.inr ⟨tk', c1⟩
  · have n46 : (mo_si σ 4 0).1 46 ≠ 1 := by
      obtain ⟨fa, ta, nf, nt, w, vs, z1, -⟩ := fi
      rw [si_1, if_neg (by omega)]
      exact z1
    have fr := fi.run (x := x)
    have fr0 := fr
    obtain ⟨fa, ta, nf, nt, w, vs, z1, -, e4, -, -, -, -, e12, -⟩ := fr
    rw [(run_stop (n := n2) (σ := mo_si σ 4 0) (x1 := x) (x2 := σ.1 47) (x3 := 1) (by omega) (Or.inr n46)).2]
    have i4 : cI (cP 8 (cP 8 (cP 8 M A.ma 11 (.int x)) A.ma 12 (.int 0)) A.ma 13 (.int 0)) A.ma 4 ≠ 1 := by
      rw [vs.I (Or.inr (Or.inr (Or.inl rfl))) 4, e4]
      exact n46
    have i12 : cI (cP 8 (cP 8 (cP 8 M A.ma 11 (.int x)) A.ma 12 (.int 0)) A.ma 13 (.int 0)) A.ma 12 = nI 0 := by
      rw [vs.I (Or.inr (Or.inr (Or.inl rfl))) 12]
      exact e12
    unfold F_Ma_goOnFor
    rw [loop_stop (by omega) (Or.inl i4)]
    refine ⟨trivial, ?_, ?_, Or.inr ⟨0, fr0⟩, h0⟩
    · show (mo_si σ 4 0).1 4 = 0
      rw [si_1, if_pos rfl]
    · show cI (cP 8 (cP 8 (cP 8 M A.ma 11 (.int x)) A.ma 12 (.int 0)) A.ma 13 (.int 0)) A.ma 12 = (mo_si σ 4 0).1 47 - σ.1 47
      rw [i12, si_1, if_neg (by omega), Int32.sub_self]
      rfl
end
end
