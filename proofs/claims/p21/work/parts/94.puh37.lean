-- pure rows: IR
section
/-! pure rows: the program begins, on both sides -/
section
variable {cs : Nat → ClassId} {lim dE : Nat × Nat} {A : Ad} {r1 r2 NF : Nat} {G : Nat → Int32} {k4 : Nat} {fa ta : Nat → Nat} {nf nt : Nat} {M : gMem} {w : Vw}
theorem VS.mReset (h : (VS cs lim dE A r1 r2 NF G k4) fa ta nf nt M w) : ∃ w', (VS cs lim dE A r1 r2 NF G k4) fa ta nf nt (F_Ma_reset cs M A.ma) w' ∧ (w'.2.1 A.ma 4 = 0 ∧ w'.2.1 A.ma 5 = 0 ∧ w'.2.1 A.ma 6 = 0 ∧ w'.2.1 A.ma 7 = 0 ∧ w'.2.1 A.ma 8 = 0 ∧ w'.2.1 A.ma 9 = -1 ∧ w'.2.2 A.ma 10 = none) ∧ MaI w w' A.ma [4, 5, 6, 7, 8, 9] ∧ (∀ c, c ≠ A.ma → Same w w' c) := by
  have h1 := h.putN (ci := 8) (k := 4) (x := 0) h.oM (by decide) (by decide) (by decide) (by decide)
  have h2 := h1.putN (ci := 8) (k := 5) (x := 0) h1.oM (by decide) (by decide) (by decide) (by decide)
  have h3 := h2.putN (ci := 8) (k := 6) (x := 0) h2.oM (by decide) (by decide) (by decide) (by decide)
  have h4 := h3.putN (ci := 8) (k := 7) (x := 0) h3.oM (by decide) (by decide) (by decide) (by decide)
  have h5 := h4.putN (ci := 8) (k := 8) (x := 0) h4.oM (by decide) (by decide) (by decide) (by decide)
  have h6 := h5.putN (ci := 8) (k := 9) (x := -1) h5.oM (by decide) (by decide) (by decide) (by decide)
  have h7 := h6.putQ (ci := 8) (k := 10) (r := none) h6.oM (Or.inr ⟨by simp [si_1, si_2, sl_1, sl_2, sl_3, ai_1, ai_2, ai_3, ai_4, al_1, al_2, al_3, al_4, cp_1, cp_2, cp_3, cp_4], fun z hz => by cases hz⟩)
  unfold F_Ma_reset
  refine ⟨_, h7, ⟨?_, ?_, ?_, ?_, ?_, ?_, ?_⟩, fun k hk => ?_, fun c hc => ?_⟩
  · rw [vpq_i, vpi_i, if_neg (by omega), vpi_i, if_neg (by omega), vpi_i, if_neg (by omega), vpi_i, if_neg (by omega), vpi_i, if_neg (by omega), vpi_i, if_pos ⟨rfl, rfl⟩]
  · rw [vpq_i, vpi_i, if_neg (by omega), vpi_i, if_neg (by omega), vpi_i, if_neg (by omega), vpi_i, if_neg (by omega), vpi_i, if_pos ⟨rfl, rfl⟩]
  · rw [vpq_i, vpi_i, if_neg (by omega), vpi_i, if_neg (by omega), vpi_i, if_neg (by omega), vpi_i, if_pos ⟨rfl, rfl⟩]
  · rw [vpq_i, vpi_i, if_neg (by omega), vpi_i, if_neg (by omega), vpi_i, if_pos ⟨rfl, rfl⟩]
  · rw [vpq_i, vpi_i, if_neg (by omega), vpi_i, if_pos ⟨rfl, rfl⟩]
  · rw [vpq_i, vpi_i, if_pos ⟨rfl, rfl⟩]
  · rw [vpq_q, if_pos ⟨rfl, rfl⟩]
  · simp only [List.mem_cons, List.not_mem_nil, or_false, not_or] at hk
    obtain ⟨k1, k2, k3, k4', k5, k6⟩ := hk
    rw [vpq_i, vpi_i, if_neg (fun z => k6 z.2), vpi_i, if_neg (fun z => k5 z.2), vpi_i, if_neg (fun z => k4' z.2), vpi_i, if_neg (fun z => k3 z.2), vpi_i, if_neg (fun z => k2 z.2), vpi_i, if_neg (fun z => k1 z.2)]
  · exact ((((((vpi_same hc).trans (vpi_same hc)).trans (vpi_same hc)).trans (vpi_same hc)).trans (vpi_same hc)).trans (vpi_same hc)).trans (vpq_same hc)
theorem VS.sReset (h : (VS cs lim dE A r1 r2 NF G k4) fa ta nf nt M w) : ∃ w', (VS cs lim dE A r1 r2 NF G k4) fa ta nf nt (F_St_reset cs M A.st) w' ∧ (w'.2.1 A.st 2 = nI 0 ∧ w'.2.1 A.st 3 = nI 0 ∧ w'.2.2 A.st 4 = none) ∧ (∀ c, c ≠ A.st → Same w w' c) := by
  have e0 : (0 : Int32).toInt = 0 := rfl
  have h1 := h.putI (ci := 9) (k := 2) (x := 0) h.oS (by decide) (by decide) (by decide) (fun _ _ z => z.putI h.oS (Or.inr (Or.inl ⟨rfl, rfl, by omega, by omega⟩)))
  have h2 := h1.putI (ci := 9) (k := 3) (x := 0) h1.oS (by decide) (by decide) (by decide) (fun _ _ z => z.putI h1.oS (Or.inr (Or.inr ⟨rfl, rfl, by omega, by omega⟩)))
  have h3 := h2.putQ (ci := 9) (k := 4) (r := none) h2.oS (Or.inr ⟨by simp [si_1, si_2, sl_1, sl_2, sl_3, ai_1, ai_2, ai_3, ai_4, al_1, al_2, al_3, al_4, cp_1, cp_2, cp_3, cp_4], fun z hz => by cases hz⟩)
  unfold F_St_reset
  refine ⟨_, h3, ⟨?_, ?_, ?_⟩, fun c hc => ((vpi_same hc).trans (vpi_same hc)).trans (vpq_same hc)⟩
  · rw [vpq_i, vpi_i, if_neg (by omega), vpi_i, if_pos ⟨rfl, rfl⟩]
    rfl
  · rw [vpq_i, vpi_i, if_pos ⟨rfl, rfl⟩]
    rfl
  · rw [vpq_q, if_pos ⟨rfl, rfl⟩]
theorem VS.fBegin (h : (VS cs lim dE A r1 r2 NF G k4) fa ta nf nt M w) (hN : 0 < NF) : ∃ f fa' nf' w', (VS cs lim dE A r1 r2 NF G k4) fa' ta nf' nt (F_Ma_begin cs dE M A.ma) w' ∧ (FsO fa' nf' f ∧ fa' 0 = f) ∧ (w'.2.1 f 1 = nI 10 ∧ w'.2.1 f 2 = nI 0 ∧ w'.2.2 f 3 = none ∧ w'.2.2 f 4 = none) ∧ (w'.2.1 A.ma 4 = 1 ∧ w'.2.1 A.ma 5 = 0 ∧ w'.2.1 A.ma 6 = 0 ∧ w'.2.1 A.ma 7 = 0 ∧ w'.2.1 A.ma 8 = 0 ∧ w'.2.1 A.ma 9 = -1 ∧ w'.2.2 A.ma 10 = some f) ∧ (w'.2.1 A.st 2 = nI 1 ∧ w'.2.1 A.st 3 = nI 0 ∧ w'.2.2 A.st 4 = none) ∧ w'.2.1 A.ma 3 = w.2.1 A.ma 3 ∧ w'.2.1 A.ma 2 = w.2.1 A.ma 2 := by
  obtain ⟨w1, v1, ⟨a4, a5, a6, a7, a8, a9, a10⟩, mi, sm⟩ := h.mReset
  unfold F_Ma_begin
  simp only [mbind_eq]
  generalize F_Ma_reset cs M A.ma = M1 at v1 ⊢
  rw [v1.lay.ma_1.2]
  simp only [Option.getD_some]
  obtain ⟨w2, v2, ⟨b2, b3, b4⟩, sm2⟩ := v1.sReset
  generalize F_St_reset cs M1 A.st = M2 at v2 ⊢
  rw [v2.lay.ma_1.2]
  simp only [Option.getD_some]
  obtain ⟨f, fa', nf', w3, e1, v3, p1, p2, p3, T1, T2, T3, T4⟩ := v2.takeF b2 hN
  generalize F_St_takeFrame cs dE M2 A.st = wf at e1 v3 ⊢
  rw [e1]
  have v4 := v3.putQ (ci := 8) (k := 10) (r := some f) v3.oM (Or.inr ⟨by simp [si_1, si_2, sl_1, sl_2, sl_3, ai_1, ai_2, ai_3, ai_4, al_1, al_2, al_3, al_4, cp_1, cp_2, cp_3, cp_4], fun z hz => by cases hz; exact p3⟩)
  generalize cP 8 wf.2 A.ma 10 (va_rf (some f)) = M4 at v4 ⊢
  have nfm : f ≠ A.ma := v3.neFM p3
  have nfs : f ≠ A.st := v3.neFS p3
  have nms : A.ma ≠ A.st := v3.neMS
  have t4 : cQ M4 A.ma 10 = some f := by rw [v4.Q (Or.inr (Or.inr (Or.inl rfl))), vpq_q, if_pos ⟨rfl, rfl⟩]
  rw [t4]
  simp only [Option.getD_some]
  have v5 := v4.opens0 p3 0
  generalize F_Fr_open cs M4 f none 0 = M5 at v5 ⊢
  have t5 : cQ M5 A.ma 10 = some f := by rw [v5.Q (Or.inr (Or.inr (Or.inl rfl))), vpq_q, if_neg (fun z => nfm z.1.symm), vpi_q, vpi_q, vpq_q, if_pos ⟨rfl, rfl⟩]
  rw [t5]
  simp only [Option.getD_some]
  have v6 := v5.putQ (ci := 10) (k := 4) (r := none) (v5.oF p3) (Or.inr ⟨by simp [si_1, si_2, sl_1, sl_2, sl_3, ai_1, ai_2, ai_3, ai_4, al_1, al_2, al_3, al_4, cp_1, cp_2, cp_3, cp_4], fun z hz => by cases hz⟩)
  have v7 := v6.putN (ci := 8) (k := 4) (x := 1) v6.oM (by decide) (by decide) (by decide) (by decide)
  obtain ⟨f0, s2, s4⟩ : fa' 0 = f ∧ w3.2.1 A.st 2 = nI 1 ∧ w3.2.2 A.st 4 = none := by
    rcases T4 with ⟨z, -⟩ | ⟨-, ⟨z1, z2⟩, z3, z4⟩
    · rw [b4] at z; cases z
    · exact ⟨z1, z4, z3⟩
  have mk3 : ∀ k, w3.2.1 A.ma k = w1.2.1 A.ma k := fun k => by rw [T2 A.ma k (Ne.symm nfm) (fun z => nms z.1), (sm2 A.ma nms).2.1]
  have I7 : ∀ c k, c ≠ f → ¬ (c = A.ma ∧ k = 4) → (vpi (vpq (vpq (vpi (vpi (vpq w3 A.ma 10 (some f)) f 2 0) f 1 (nI 10)) f 3 none) f 4 none) A.ma 4 1).2.1 c k = w3.2.1 c k := fun c k c1 c2 => by
    rw [vpi_i, if_neg c2, vpq_i, vpq_i, vpi_i, if_neg (fun z => c1 z.1), vpi_i, if_neg (fun z => c1 z.1), vpq_i]
  refine ⟨f, fa', nf', _, v7, ⟨p3, f0⟩, ⟨?_, ?_, ?_, ?_⟩, ⟨?_, ?_, ?_, ?_, ?_, ?_, ?_⟩, ⟨?_, ?_, ?_⟩, ?_, ?_⟩
  · rw [vpi_i, if_neg (fun z => nfm z.1), vpq_i, vpq_i, vpi_i, if_pos ⟨rfl, rfl⟩]
  · rw [vpi_i, if_neg (fun z => nfm z.1), vpq_i, vpq_i, vpi_i, if_neg (by omega), vpi_i, if_pos ⟨rfl, rfl⟩]
    rfl
  · rw [vpi_q, vpq_q, if_neg (by omega), vpq_q, if_pos ⟨rfl, rfl⟩]
  · rw [vpi_q, vpq_q, if_pos ⟨rfl, rfl⟩]
  · rw [vpi_i, if_pos ⟨rfl, rfl⟩]
  · rw [I7 _ _ (Ne.symm nfm) (by omega), mk3]; exact a5
  · rw [I7 _ _ (Ne.symm nfm) (by omega), mk3]; exact a6
  · rw [I7 _ _ (Ne.symm nfm) (by omega), mk3]; exact a7
  · rw [I7 _ _ (Ne.symm nfm) (by omega), mk3]; exact a8
  · rw [I7 _ _ (Ne.symm nfm) (by omega), mk3]; exact a9
  · rw [vpi_q, vpq_q, if_neg (fun z => nfm z.1.symm), vpq_q, if_neg (fun z => nfm z.1.symm), vpi_q, vpi_q, vpq_q, if_pos ⟨rfl, rfl⟩]
  · rw [I7 _ _ (Ne.symm nfs) (fun z => nms z.1.symm)]; exact s2
  · rw [I7 _ _ (Ne.symm nfs) (fun z => nms z.1.symm), T2 A.st 3 (Ne.symm nfs) (by omega)]; exact b3
  · rw [vpi_q, vpq_q, if_neg (fun z => nfs z.1.symm), vpq_q, if_neg (fun z => nfs z.1.symm), vpi_q, vpi_q, vpq_q, if_neg (fun z => nms z.1.symm)]; exact s4
  · rw [I7 _ _ (Ne.symm nfm) (by omega), mk3]; exact mi 3 (by decide)
  · rw [I7 _ _ (Ne.symm nfm) (by omega), mk3]; exact mi 2 (by decide)
/-- a program that is begun -/
theorem begin_rs {X : Cx} {σ : mSt} {p cc l' t : Nat} {mk : Fr} (h : (VS cs lim dE A r1 r2 NF G k4) fa ta nf nt M w) (hN : 0 < NF) (ar : Arr X σ) (f36 : (σ.1 36).toInt = p) (gd : Gd X p) (cd : Cd X.A G cc p 0 l') (hl : l' ≤ 1700) (op : cOp G l' = 0) (ty : Ty X.A X.P X.tk X.gv (fun _ => -1) p t) (hmk : mk.node = -1) : RsA cs lim dE A r1 r2 NF X G k4 mk t (F_Ma_begin cs dE M A.ma) (F_Mo_begin σ) := by
  obtain ⟨f, fa', nf', w', v, ⟨p3, f0⟩, ⟨n1, n2, n3, n4⟩, ⟨m4, m5, m6, m7, m8, m9, m10⟩, ⟨s2, s3, s4⟩, -, -⟩ := h.fBegin hN
  have g44 : (F_Mo_begin σ).1 44 = 0 := by simp [si_1, si_2, sl_1, sl_2, sl_3, ai_1, ai_2, ai_3, ai_4, al_1, al_2, al_3, al_4, cp_1, cp_2, cp_3, cp_4, F_Mo_begin]
  have g45 : (F_Mo_begin σ).1 45 = σ.1 36 := by simp [si_1, si_2, sl_1, sl_2, sl_3, ai_1, ai_2, ai_3, ai_4, al_1, al_2, al_3, al_4, cp_1, cp_2, cp_3, cp_4, F_Mo_begin]
  have g46 : (F_Mo_begin σ).1 46 = 1 := by simp [si_1, si_2, sl_1, sl_2, sl_3, ai_1, ai_2, ai_3, ai_4, al_1, al_2, al_3, al_4, cp_1, cp_2, cp_3, cp_4, F_Mo_begin]
  have g47 : (F_Mo_begin σ).1 47 = 0 := by simp [si_1, si_2, sl_1, sl_2, sl_3, ai_1, ai_2, ai_3, ai_4, al_1, al_2, al_3, al_4, cp_1, cp_2, cp_3, cp_4, F_Mo_begin]
  have g48 : (F_Mo_begin σ).1 48 = 0 := by simp [si_1, si_2, sl_1, sl_2, sl_3, ai_1, ai_2, ai_3, ai_4, al_1, al_2, al_3, al_4, cp_1, cp_2, cp_3, cp_4, F_Mo_begin]
  have g49 : (F_Mo_begin σ).1 49 = 0 := by simp [si_1, si_2, sl_1, sl_2, sl_3, ai_1, ai_2, ai_3, ai_4, al_1, al_2, al_3, al_4, cp_1, cp_2, cp_3, cp_4, F_Mo_begin]
  have g51 : (F_Mo_begin σ).1 51 = 0 := by simp [si_1, si_2, sl_1, sl_2, sl_3, ai_1, ai_2, ai_3, ai_4, al_1, al_2, al_3, al_4, cp_1, cp_2, cp_3, cp_4, F_Mo_begin]
  have g56 : (F_Mo_begin σ).1 56 = 0 := by simp [si_1, si_2, sl_1, sl_2, sl_3, ai_1, ai_2, ai_3, ai_4, al_1, al_2, al_3, al_4, cp_1, cp_2, cp_3, cp_4, F_Mo_begin]
  have g61 : (F_Mo_begin σ).1 61 = 0 := by simp [si_1, si_2, sl_1, sl_2, sl_3, ai_1, ai_2, ai_3, ai_4, al_1, al_2, al_3, al_4, cp_1, cp_2, cp_3, cp_4, F_Mo_begin]
  have ar' : Arr X (F_Mo_begin σ) := ar.congr (fun k _ _ => by simp [si_1, si_2, sl_1, sl_2, sl_3, ai_1, ai_2, ai_3, ai_4, al_1, al_2, al_3, al_4, cp_1, cp_2, cp_3, cp_4, F_Mo_begin])
  have e0 : (0 : Int32).toInt = 0 := rfl
  have dp := gd.1.2.2
  refine ⟨⟨0, 0, fun _ => 0, fun _ => 0⟩, (fun _ => 0, fun _ => 0), fa', ta, nf', nt, 1, 0, fun z => if z = f then 1 else 0, [], fun _ => 0, w', 1701, ⟨v, s2, by omega, s3, ⟨by omega, by omega⟩, ⟨by rw [s4]; rfl, List.nodup_nil, fun z hz => by cases hz⟩, fun z hz => ?_, by rw [m7, g48]; exact ⟨rfl, by omega, by omega⟩, by rw [m8, g49]; exact ⟨rfl, by omega, by omega⟩, by rw [m6, g47], m9, m5, by rw [g56]; rfl, by rw [g61]; rfl, ar', fun i hi => absurd hi (Nat.not_lt_zero _), fun i hi => absurd hi (Nat.not_lt_zero _), fun i j hi => absurd hi (Nat.not_lt_zero _), by rw [g48]; exact Int.le_refl _, by rw [g48]; exact Int.le_refl _, by rw [g48]; exact Int.le_refl _, by rw [g48, g47]; exact ⟨by omega, by omega⟩⟩, ⟨m4, g46⟩, ⟨0, f, [], w'.1 f, 10, 0, [], mk, [], t, t, 0, ⟨by rw [g44]; rfl, by omega, ⟨m10, n4⟩, ?_, fun z hz => ?_, by rw [g49]; rfl, rfl, ⟨rfl, .rfl', rfl⟩⟩, rfl, Or.inl ⟨g51, p, l', cc, fun _ => -1, by rw [g45]; exact f36, gd, ?_, by omega, ⟨fun _ => rfl, n1, n2⟩, cd, ty, fun k _ t' ht' => ?_, 1, t, l', ⟨⟨hl, by omega, by omega⟩, Or.inl ⟨rfl, rfl, rfl, .rfl'⟩⟩, Or.inl ⟨hmk, n3, op, .rfl'⟩⟩⟩⟩
  · have hz : (if z = f then 1 else 0) ≠ 0 := hz
    by_cases q : z = f
    · exact ⟨0, by omega, by rw [f0, q]⟩
    · rw [if_neg q] at hz; exact absurd rfl hz
  · exact List.nodup_cons.mpr ⟨by simp [si_1, si_2, sl_1, sl_2, sl_3, ai_1, ai_2, ai_3, ai_4, al_1, al_2, al_3, al_4, cp_1, cp_2, cp_3, cp_4], List.nodup_nil⟩
  · simp only [List.mem_singleton] at hz
    show (if z = f then 1 else 0) = 1
    rw [if_pos hz]
  · unfold DpOk
    omega
  · exfalso
    have : (-1 : Int) = t' := ht'
    omega
end
end
