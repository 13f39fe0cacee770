-- pure rows: IS
section
/-! pure rows: the machine's answers; calls that only tell -/
section
variable {cs : Nat → ClassId} {lim dE : Nat × Nat} {A : Ad} {r1 r2 NF : Nat} {X : Cx} {G : Nat → Int32} {k4 : Nat} {M : gMem} {σ σ' : mSt} {mk : Fr} {ut tk : Nat}
theorem RsA.mo (h : RsA cs lim dE A r1 r2 NF X G k4 mk ut M σ) (f : ∀ k, 44 ≤ k → σ'.1 k = σ.1 k) (l : σ'.2.1 = σ.2.1) (ar : Arr X σ → Arr X σ') (a : ∀ k, 40 ≤ k → σ'.2.2.1 k = σ.2.2.1 k) (al : σ'.2.2.2 = σ.2.2.2) : RsA cs lim dE A r1 r2 NF X G k4 mk ut M σ' := by
  obtain ⟨S, μ, fa, ta, nf, nt, u, v, own, Lf, Wk, w, W, c, ⟨h4, h46⟩, ⟨F, b0, L, s, h, r, Fs, b, rest, t, u1, W1, tp, hW, tt⟩⟩ := h
  have hp : HpE σ σ' := ⟨fun k hk => f k (by omega), fun k hk => a k (by omega), fun k _ => by rw [al]⟩
  have fr0 : frm σ' = frm σ := frm_of (fun k hk => a k (by omega)) (fun k _ => by rw [al])
  have ns0 : nsee σ' = nsee σ := by unfold nsee; rw [al]
  have g44 := f 44 (by omega)
  have g45 := f 45 (by omega)
  have g46 := f 46 (by omega)
  have g47 := f 47 (by omega)
  have g48 := f 48 (by omega)
  have g49 := f 49 (by omega)
  have g51 := f 51 (by omega)
  have c3 := c.same c.vs Same.rfl' (fun _ _ => Same.rfl') (fun _ _ => Same.rfl') hp (ar c.ar) (by rw [g48]; exact c.th) (by rw [g49]; exact c.dp) (by rw [g47]; exact c.fu) c.un c.va (by rw [g48]; omega) (by rw [g47]; omega)
  have tp3 := tp.next (σ' := σ') (F' := F) (Fs' := Fs) Sto.le.rfl' MpLe.rfl' (fun _ _ => Same.rfl') (fun z hz => ⟨Same.rfl'.T, hz⟩) rfl rfl tp.ow (by rw [g44]; exact tp.f44) tp.hF g49 (by
    rw [rfs_c (σ := σ) (σ' := σ') (fun i _ => by rw [fr0])]
    exact tp.rf)
  refine ⟨S, μ, fa, ta, nf, nt, u, v, own, Lf, Wk, w, W, c3, ⟨h4, by rw [g46]; exact h46⟩, ⟨F, b0, L, s, h, r, Fs, b, rest, t, u1, W1, tp3, hW, ?_⟩⟩
  rcases tt with ⟨z51, n, r', cx, g, f45, gd, dp, h10, fs, cd, ty, sr, bk⟩ | ⟨gv, fs, vr, bk⟩
  · exact Or.inl ⟨by rw [g51]; exact z51, n, r', cx, g, by rw [g45]; exact f45, gd, dp, h10, fs, cd, ty, by rw [ns0]; exact sr, bk⟩
  · exact Or.inr ⟨by rw [g51]; exact gv, fs, by rw [l]; exact vr, bk⟩
theorem FinA.mo (h : FinA cs lim dE A r1 r2 NF G k4 ut M σ tk) (f : ∀ k, 44 ≤ k → σ'.1 k = σ.1 k) (l : σ'.2.1 = σ.2.1) : FinA cs lim dE A r1 r2 NF G k4 ut M σ' tk := by
  unfold FinA at h ⊢
  rw [f 46 (by omega), f 47 (by omega), f 48 (by omega), f 49 (by omega), f 50 (by omega), l]
  exact h
/-- how the machines stand to each other between two calls -/
def McA (cs : Nat → ClassId) (lim dE : Nat × Nat) (A : Ad) (r1 r2 NF : Nat) (X : Cx) (G : Nat → Int32) (k4 : Nat) (mk : Fr) (ut : Nat) (M : gMem) (σ : mSt) : Prop :=
  (σ.1 46 = 0 ∧ cI M A.ma 4 = 0 ∧ cI M A.ma 5 = 0 ∧ cI M A.ma 6 = 0 ∧ cI M A.ma 7 = 0 ∧ cI M A.ma 8 = 0 ∧ cI M A.ma 9 = -1) ∨ (RsA cs lim dE A r1 r2 NF X G k4 mk ut M σ ∧ ∃ Mx, RunOk X σ Mx) ∨ ∃ tk, FinA cs lim dE A r1 r2 NF G k4 ut M σ tk
/-- what the machine shows -/
def Shw (A : Ad) (M : gMem) (σ : mSt) : Prop := (cI M A.ma 4 = σ.1 46) ∧ (cI M A.ma 5 = (if σ.1 46 = 2 then (if σ.1 37 < 3 then σ.2.1.toInt32 else 0) else 0)) ∧ (cI M A.ma 6 = (if σ.1 46 = 0 then 0 else σ.1 47)) ∧ (cI M A.ma 7 = (if σ.1 46 = 0 then 0 else σ.1 48)) ∧ (cI M A.ma 8 = (if σ.1 46 = 0 then 0 else σ.1 49)) ∧ (cI M A.ma 9 = (if σ.1 46 = 4 then σ.1 50 else -1))
theorem Shw.s4 {A : Ad} {M : gMem} {σ : mSt} (self : Shw A M σ) : cI M A.ma 4 = σ.1 46 := self.1
theorem Shw.s5 {A : Ad} {M : gMem} {σ : mSt} (self : Shw A M σ) : cI M A.ma 5 = (if σ.1 46 = 2 then (if σ.1 37 < 3 then σ.2.1.toInt32 else 0) else 0) := self.2.1
theorem Shw.s6 {A : Ad} {M : gMem} {σ : mSt} (self : Shw A M σ) : cI M A.ma 6 = (if σ.1 46 = 0 then 0 else σ.1 47) := self.2.2.1
theorem Shw.s7 {A : Ad} {M : gMem} {σ : mSt} (self : Shw A M σ) : cI M A.ma 7 = (if σ.1 46 = 0 then 0 else σ.1 48) := self.2.2.2.1
theorem Shw.s8 {A : Ad} {M : gMem} {σ : mSt} (self : Shw A M σ) : cI M A.ma 8 = (if σ.1 46 = 0 then 0 else σ.1 49) := self.2.2.2.2.1
theorem Shw.s9 {A : Ad} {M : gMem} {σ : mSt} (self : Shw A M σ) : cI M A.ma 9 = (if σ.1 46 = 4 then σ.1 50 else -1) := self.2.2.2.2.2
theorem i64_i32 {x : Int32} {v : Int64} (h : x.toInt = v.toInt) : x = v.toInt32 := by
  have b := x.toInt_lt
  have c := x.le_toInt
  apply Int32.toInt_inj.mp
  rw [Int64.toInt_toInt32, ← h, Int.bmod_eq_of_le (by omega) (by omega)]
theorem McA.show (h : McA cs lim dE A r1 r2 NF X G k4 mk ut M σ) (t3 : (σ.1 37).toInt = ut) (s3 : cI M A.ma 3 = 0 ↔ ¬ σ.1 37 < 3) : Shw A M σ := by
  rcases h with ⟨h46, h4, h5, h6, h7, h8, h9⟩ | ⟨h, -⟩ | ⟨tk, h⟩
  · have n2 : ¬ (0 : Int32) = 2 := by decide
    have n4 : ¬ (0 : Int32) = 4 := by decide
    refine ⟨?_, ?_, ?_, ?_, ?_, ?_⟩
    · rw [h4, h46]
    · rw [h5, h46, if_neg n2]
    · rw [h6, if_pos h46]
    · rw [h7, if_pos h46]
    · rw [h8, if_pos h46]
    · rw [h9, h46, if_neg n4]
  · obtain ⟨S, μ, fa, ta, nf, nt, u, v, own, Lf, Wk, w, W, c, ⟨h4, h46⟩, st⟩ := h
    have I : ∀ k, cI M A.ma k = w.2.1 A.ma k := fun k => c.vs.I (Or.inr (Or.inr (Or.inl rfl))) k
    have n2 : ¬ (1 : Int32) = 2 := by decide
    have n4 : ¬ (1 : Int32) = 4 := by decide
    have n0 : ¬ (1 : Int32) = 0 := by decide
    refine ⟨?_, ?_, ?_, ?_, ?_, ?_⟩
    · rw [I, h4, h46]
    · rw [I, h46, if_neg n2]; exact c.va
    · rw [I, h46, if_neg n0]; exact c.fu
    · rw [I, h46, if_neg n0]; exact c.th.1
    · rw [I, h46, if_neg n0]; exact c.dp.1
    · rw [I, h46, if_neg n4]; exact c.un
  · obtain ⟨fa, ta, nf, nt, w, vs, n1, n0, e4, e6, e7, e8, e9, e12, e5, f5⟩ := h
    have I : ∀ k, cI M A.ma k = w.2.1 A.ma k := fun k => vs.I (Or.inr (Or.inr (Or.inl rfl))) k
    refine ⟨?_, ?_, ?_, ?_, ?_, ?_⟩
    · rw [I]; exact e4
    · rw [I]
      by_cases h2 : σ.1 46 = 2
      · rw [if_pos h2]
        obtain ⟨g1, g2⟩ := f5 h2
        by_cases h3 : σ.1 37 < 3
        · rw [if_pos h3]
          have i3 : w.2.1 A.ma 3 ≠ 0 := fun z => by
            rw [← I] at z
            exact s3.mp z h3
          have lt : ut < 3 := by
            have z := Int32.lt_iff_toInt_lt.mp h3
            have y : (3 : Int32).toInt = 3 := rfl
            omega
          exact i64_i32 (g2 i3 lt)
        · rw [if_neg h3]
          have i3 := s3.mpr h3
          rw [I] at i3
          exact g1 i3
      · rw [if_neg h2]; exact e5 h2
    · rw [I, if_neg n0]; exact e6
    · rw [I, if_neg n0]; exact e7
    · rw [I, if_neg n0]; exact e8
    · rw [I]; exact e9
/-- state answers as the reference's -/
theorem Shw.state (h : Shw A M σ) (hx : cQ M A.x 6 = some A.ma) (x1 : Int32) : F_N_state cs M A.x x1 = (F_Mo_state σ x1).1 := by
  have S : ∀ k, k ≠ 4 → (mo_si σ 4 0).1 k = σ.1 k := fun k hk => by rw [si_1, if_neg hk]
  unfold F_N_state F_Mo_state
  rw [hx]
  simp only [Option.getD_some]
  rw [S 46 (by omega), S 37 (by omega), S 47 (by omega), S 48 (by omega), S 49 (by omega), S 50 (by omega), h.s4, h.s5, h.s6, h.s7, h.s8, h.s9]
  by_cases x0 : x1 = 0
  · rw [if_pos x0, if_pos x0]
  rw [if_neg x0, if_neg x0]
  by_cases x2 : x1 = 1
  · rw [if_pos x2, if_pos x2]
    by_cases h2 : σ.1 46 = 2
    · rw [if_pos h2, if_pos h2]
      by_cases h3 : σ.1 37 < 3
      · rw [if_pos h3, if_pos h3]; rfl
      · rw [if_neg h3, if_neg h3]
    · rw [if_neg h2, if_neg h2]
  rw [if_neg x2, if_neg x2]
  by_cases x3 : x1 = 2
  · rw [if_pos x3, if_pos x3]
    by_cases h0 : σ.1 46 = 0
    · rw [if_pos h0, if_pos h0]
    · rw [if_neg h0, if_neg h0]
  rw [if_neg x3, if_neg x3]
  by_cases x4 : x1 = 3
  · rw [if_pos x4, if_pos x4]
    by_cases h0 : σ.1 46 = 0
    · rw [if_pos h0, if_pos h0]
    · rw [if_neg h0, if_neg h0]
  rw [if_neg x4, if_neg x4]
  by_cases x5 : x1 = 4
  · rw [if_pos x5, if_pos x5]
    by_cases h0 : σ.1 46 = 0
    · rw [if_pos h0, if_pos h0]
    · rw [if_neg h0, if_neg h0]
  rw [if_neg x5, if_neg x5]
  by_cases x6 : x1 = 5
  · rw [if_pos x6, if_pos x6]
    by_cases h4 : σ.1 46 = 4
    · rw [if_pos h4, if_pos h4]
    · rw [if_neg h4, if_neg h4]
  rw [if_neg x6, if_neg x6]
end
end
