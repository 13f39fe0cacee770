-- pure rows: IP
section
/-! pure rows: a run begins -/
/-- class and reference between two runs -/
def RsA (cs : Nat → ClassId) (lim dE : Nat × Nat) (A : Ad) (r1 r2 NF : Nat) (X : Cx) (G : Nat → Int32) (k4 : Nat) (mk : Fr) (ut : Nat) (M : gMem) (σ : mSt) : Prop :=
  ∃ (S : Sto) (μ : Mp) (fa ta : Nat → Nat) (nf nt u v : Nat) (own : Nat → Nat) (Lf : List Nat) (Wk : Nat → Nat) (w : Vw) (W : Nat), SimC cs lim dE A r1 r2 NF X G k4 S μ fa ta nf nt u v own Lf Wk M w σ ∧ (w.2.1 A.ma 4 = 1 ∧ σ.1 46 = 1) ∧ SimT X G S μ w (FsO ta v) A own σ mk ut W
theorem RunOk.si4 {X : Cx} {σ : mSt} {Mx : Nat} {z : Int32} (h : RunOk X σ Mx) : RunOk X (mo_si σ 4 z) Mx := by
  obtain ⟨S, K, q, F, c2, w, t, u, d, r, o⟩ := h
  refine ⟨S, K, q, F, c2, w, t, u, d, r.congr (fun k hk => by rw [si_1, if_neg (by omega)]) (fun _ _ => rfl) (fun _ _ => rfl), ?_⟩
  rcases o with ⟨o1, o2, o3⟩ | ⟨o1, nd, nw, o3⟩
  · exact Or.inl ⟨by simpa [si_1, si_2, sl_1, sl_2, sl_3, ai_1, ai_2, ai_3, ai_4, al_1, al_2, al_3, al_4, cp_1, cp_2, cp_3, cp_4] using o1, o2, o3⟩
  · exact Or.inr ⟨by simpa [si_1, si_2, sl_1, sl_2, sl_3, ai_1, ai_2, ai_3, ai_4, al_1, al_2, al_3, al_4, cp_1, cp_2, cp_3, cp_4] using o1, nd, ⟨by simpa [si_1, si_2, sl_1, sl_2, sl_3, ai_1, ai_2, ai_3, ai_4, al_1, al_2, al_3, al_4, cp_1, cp_2, cp_3, cp_4] using nw.f45, nw.good, nw.dp, nw.ty⟩, o3⟩
section
variable {cs : Nat → ClassId} {lim dE : Nat × Nat} {A : Ad} {r1 r2 NF : Nat} {X : Cx} {G : Nat → Int32} {k4 : Nat} {M M' : gMem} {σ σ' : mSt} {al tk Φ : Nat} {mk : Fr} {ut : Nat} {y x2 : Int32}
theorem PsA.rs (h : PsA cs lim dE A r1 r2 NF X G k4 mk ut M σ tk) : RsA cs lim dE A r1 r2 NF X G k4 mk ut M σ := by
  obtain ⟨S, μ, fa, ta, nf, nt, u, v, own, Lf, Wk, w, W, c, ⟨h4, -, -, h46⟩, st⟩ := h
  exact ⟨S, μ, fa, ta, nf, nt, u, v, own, Lf, Wk, w, W, c, ⟨h4, h46⟩, st⟩
theorem run_start (rs : RsA cs lim dE A r1 r2 NF X G k4 mk ut M σ) (hal : al ≤ 200) (hfl : (σ.1 47).toInt + al + 1001 ≤ NF) : ∃ Φ, Φ ≤ 2723301 ∧ SimA cs lim dE A r1 r2 NF X G k4 mk ut (cP 8 (cP 8 (cP 8 M A.ma 11 (.int (nI al))) A.ma 12 (.int 0)) A.ma 13 (.int 0)) (mo_si σ 4 0) al 0 Φ := by
  obtain ⟨S, μ, fa, ta, nf, nt, u, v, own, Lf, Wk, w, W, c, ⟨h4, h46⟩, ⟨F, a, L, s, h, r, Fs, b, rest, t, u1, W1, tp, hW, tt⟩⟩ := rs
  have g1 := c.vs.putN (ci := 8) (k := 11) (x := nI al) c.vs.oM (by decide) (by decide) (by decide) (by decide)
  have g2 := g1.putN (ci := 8) (k := 12) (x := 0) g1.oM (by decide) (by decide) (by decide) (by decide)
  have g3 := g2.putN (ci := 8) (k := 13) (x := 0) g2.oM (by decide) (by decide) (by decide) (by decide)
  generalize hw3 : vpi (vpi (vpi w A.ma 11 (nI al)) A.ma 12 0) A.ma 13 0 = w3 at g3
  have S3 : ∀ z, z ≠ A.ma → Same w w3 z := fun z hz => by rw [← hw3]; exact ((vpi_same hz).trans (vpi_same hz)).trans (vpi_same hz)
  have M3 : ∀ k, k ≠ 11 → k ≠ 12 → k ≠ 13 → w3.2.1 A.ma k = w.2.1 A.ma k := fun k a1 a2 a3 => by rw [← hw3, vpi_i, if_neg (fun z => a3 z.2), vpi_i, if_neg (fun z => a2 z.2), vpi_i, if_neg (fun z => a1 z.2)]
  have Q3 : ∀ k, w3.2.2 A.ma k = w.2.2 A.ma k := fun k => by rw [← hw3, vpi_q, vpi_q, vpi_q]
  have m11 : w3.2.1 A.ma 11 = nI al := by rw [← hw3, vpi_i, if_neg (by omega), vpi_i, if_neg (by omega), vpi_i, if_pos ⟨rfl, rfl⟩]
  have m12 : w3.2.1 A.ma 12 = nI 0 := by
    rw [← hw3, vpi_i, if_neg (by omega), vpi_i, if_pos ⟨rfl, rfl⟩]
    rfl
  have m13 : w3.2.1 A.ma 13 = 0 := by rw [← hw3, vpi_i, if_pos ⟨rfl, rfl⟩]
  generalize hσ0 : mo_si σ 4 0 = σ0
  have gf : ∀ k, k ≠ 4 → σ0.1 k = σ.1 k := fun k hk => by rw [← hσ0]; simp [si_1, si_2, sl_1, sl_2, sl_3, ai_1, ai_2, ai_3, ai_4, al_1, al_2, al_3, al_4, cp_1, cp_2, cp_3, cp_4, hk]
  have gf2 : σ0.2 = σ.2 := by rw [← hσ0]; rfl
  have hp : HpE σ σ0 := ⟨fun k hk => gf k (by omega), fun k _ => by rw [gf2], fun k _ => by rw [gf2]⟩
  have ar : Arr X σ0 := c.ar.congr (fun k _ _ => by rw [gf2])
  have fr0 : frm σ0 = frm σ := frm_of (fun k _ => by rw [gf2]) (fun k _ => by rw [gf2])
  have ns0 : nsee σ0 = nsee σ := by unfold nsee; rw [gf2]
  have g47 := gf 47 (by omega)
  have g48 := gf 48 (by omega)
  have g49 := gf 49 (by omega)
  have ha := c.fsa tp.ow1
  have nma := c.vs.neFM ha
  have c3 : SimC cs lim dE A r1 r2 NF X G k4 S μ fa ta nf nt u v own Lf Wk (cP 8 (cP 8 (cP 8 M A.ma 11 (.int (nI al))) A.ma 12 (.int 0)) A.ma 13 (.int 0)) w3 σ0 := by
    refine c.same g3 (S3 A.st (Ne.symm c.vs.neMS)) (fun i hi => S3 _ (c.vs.neTM (c.tv ⟨i, hi, rfl⟩))) (fun z hz => S3 z (c.vs.neFM (c.fs (c := z) (by omega)))) hp ar ?_ ?_ ?_ ?_ ?_ (by rw [g48]; omega) (by rw [g47]; omega)
    · rw [M3 7 (by decide) (by decide) (by decide), g48]; exact c.th
    · rw [M3 8 (by decide) (by decide) (by decide), g49]; exact c.dp
    · rw [M3 6 (by decide) (by decide) (by decide), g47]; exact c.fu
    · rw [M3 9 (by decide) (by decide) (by decide)]; exact c.un
    · rw [M3 5 (by decide) (by decide) (by decide)]; exact c.va
  have tV : ∀ z, FsO ta v z → SameT w w3 z ∧ FsO ta v z := fun z hz => ⟨(S3 z (c.vs.neTM (c.tv hz))).T, hz⟩
  have tp3 : Tp X G S μ w3 (FsO ta v) A own σ0 mk ut F a L Fs b rest u1 W1 := tp.next Sto.le.rfl' MpLe.rfl' (fun z hz => S3 z (c.vs.neFM (c.fsa (tp.ow z (by simp [si_1, si_2, sl_1, sl_2, sl_3, ai_1, ai_2, ai_3, ai_4, al_1, al_2, al_3, al_4, cp_1, cp_2, cp_3, cp_4, hz]))))) tV ((S3 a nma).2.2 4) (Q3 10) tp.ow (by rw [gf 44 (by omega)]; exact tp.f44) tp.hF g49 (by
    rw [rfs_c (σ := σ) (σ' := σ0) (fun i _ => by rw [fr0])]
    exact tp.rf)
  have tt3 : TNow X G S μ w3 (FsO ta v) σ0 a s h r Fs b t u1 ∨ TGot X G S μ w3 (FsO ta v) σ0 a s h r Fs b t u1 := by
    rcases tt with ⟨g51, n, r', cx, g, f45, gd, dp, h10, fs, cd, ty, sr, bk⟩ | ⟨gv, fs, vr, bk⟩
    · exact Or.inl ⟨by rw [gf 51 (by omega)]; exact g51, n, r', cx, g, by rw [gf 45 (by omega)]; exact f45, gd, dp, h10, fs.same (S3 a nma), cd, ty, by rw [ns0]; exact sr, bk.mono Sto.le.rfl' MpLe.rfl' ((S3 a nma).2.2 3) tV⟩
    · exact Or.inr ⟨by rw [gf 51 (by omega)]; exact gv, fs.same (S3 a nma), by rw [gf2]; exact vr, bk.mono Sto.le.rfl' MpLe.rfl' ((S3 a nma).2.2 3) tV⟩
  have wl := tp.bs.le
  have tl := tp.len
  have dp := c.dp
  have th := c.th
  have hw := c.hw
  refine ⟨W + sumW Wk S.nk + (1000 - (σ0.1 48).toInt.toNat) * 1701 + (al - 0) * 1701, ?_, ⟨S, μ, fa, ta, nf, nt, u, v, own, Lf, Wk, w3, W, c3, ⟨by rw [M3 4 (by decide) (by decide) (by decide)]; exact h4, m13, m11, m12, ⟨by omega, hal⟩, by rw [gf 46 (by omega)]; exact h46, by rw [g47]; omega⟩, ⟨F, a, L, s, h, r, Fs, b, rest, t, u1, W1, tp3, hW, tt3⟩, rfl⟩⟩
  rw [g48]
  clear tt tt3 tp tp3 c c3 g1 g2 g3
  have h1 : (σ.1 48).toInt.toNat ≤ 1000 := by omega
  have h2 : sumW Wk S.nk ≤ 1701 * (σ.1 48).toInt.toNat := by omega
  have h3 : L.length ≤ 400 := by omega
  have h4' : W ≤ 1701 * 401 := by omega
  omega
/-- both run, from a rest to the next -/
theorem run_both {Mx n nc : Nat} (hX : X.Ok) (hmk : mk.node = -1) (rs : RsA cs lim dE A r1 r2 NF X G k4 mk ut M σ) (ok : RunOk X σ Mx) (hal : al ≤ 200) (hfl : (σ.1 47).toInt + al + 1001 ≤ NF) (hn : 11000000000 ≤ n) (hnc : 4000000 ≤ nc) : LoopR cs lim dE A r1 r2 NF X G k4 mk ut al (σ.1 47) (F_Mo_run_47 n (mo_si σ 4 0) (nI al) (σ.1 47) 1) (F_Ma_goOnFor cs dE nc M A.ma (nI al)) := by
  obtain ⟨Φ, hΦ, sa⟩ := run_start rs hal hfl
  have hM := ok.le hX
  have ok4 : RunOk X (mo_si σ 4 0) Mx := ok.si4
  have e47 : (mo_si σ 4 0).1 47 - σ.1 47 = nI 0 := by
    rw [si_1, if_neg (by omega), Int32.sub_self]
    rfl
  unfold F_Ma_goOnFor
  exact loopA (y := nI al) hX hmk (al * 50000001 + Mx) n (mo_si σ 4 0) _ Φ Mx 0 nc 0 0 sa ok4 e47 (by rw [Nat.sub_zero]; omega) (by omega) rfl (by omega) (by omega)
end
end
