-- pure rows: IM
section
/-! pure rows: no fuel is left, and the program has ended -/
/-- class and reference, waiting for fuel -/
def PsA (cs : Nat → ClassId) (lim dE : Nat × Nat) (A : Ad) (r1 r2 NF : Nat) (X : Cx) (G : Nat → Int32) (k4 : Nat) (mk : Fr) (ut : Nat) (M : gMem) (σ : mSt) (tk : Nat) : Prop :=
  ∃ (S : Sto) (μ : Mp) (fa ta : Nat → Nat) (nf nt u v : Nat) (own : Nat → Nat) (Lf : List Nat) (Wk : Nat → Nat) (w : Vw) (W : Nat), SimC cs lim dE A r1 r2 NF X G k4 S μ fa ta nf nt u v own Lf Wk M w σ ∧ (w.2.1 A.ma 4 = 1 ∧ w.2.1 A.ma 13 = 1 ∧ w.2.1 A.ma 12 = nI tk ∧ σ.1 46 = 1) ∧ SimT X G S μ w (FsO ta v) A own σ mk ut W
def WaA (cs : Nat → ClassId) (lim dE : Nat × Nat) (A : Ad) (r1 r2 NF : Nat) (X : Cx) (G : Nat → Int32) (k4 : Nat) (mk : Fr) (ut : Nat) (M : gMem) (σ : mSt) (tk Φ : Nat) : Prop := ∃ (k : Nat) (M' : gMem), CSts cs dE A k M M' ∧ PsA cs lim dE A r1 r2 NF X G k4 mk ut M' σ tk ∧ k ≤ Φ
section
variable {cs : Nat → ClassId} {lim dE : Nat × Nat} {A : Ad} {r1 r2 NF : Nat} {X : Cx} {G : Nat → Int32} {k4 : Nat} {S S' : Sto} {μ μ' : Mp} {fa fa' ta ta' : Nat → Nat} {nf nf' nt nt' u v v' : Nat} {own : Nat → Nat} {Lf : List Nat} {Wk : Nat → Nat} {M M' : gMem} {w w' : Vw} {σ σ' : mSt} {al tk a h r n nd d cc m W Φ l r' T D f' : Nat} {s : Nat → Int32} {mk : Fr} {ut F : Nat} {L : List Nat} {F2 Fs : List Fr} {f b : Fr} {rest : List Fr} {t u0 u1 W1 : Nat} {e : Nat} {x1 : Int32} {g : Nat → Int}
theorem got_wait (hmk : mk.node = -1) (c : (SimC cs lim dE A r1 r2 NF X G k4) S μ fa ta nf nt u v own Lf Wk M w σ) (rn : Rn A NF w σ al tk) (tp : Tp X G S μ w (FsO ta v) A own σ mk ut F a L (f :: F2) b rest u1 W1) (fs : FSt w a s (h + 1) r) (vr : VR X.P S μ t (s h) σ.2.1) (gv : σ.1 51 ≠ 0) (q2 : f.node.toInt = nd) (q3 : Gd X nd) (kd : (X.A 5 nd).toInt = 10 ∧ f.stage ≠ 0 ∧ cOp G r = 12 ∨ (X.A 5 nd).toInt = 11 ∧ cOp G r = 13) (bk : Bk X G S μ w (FsO ta v) a r s h (f :: F2) b t u1) (hW : W + r = W1 + 1701) (hΦ : 1 ≤ Φ) (htk : al ≤ tk) :
    F_Mo_comes n σ 0 = (0, σ) ∧ (WaA cs lim dE A r1 r2 NF X G k4 mk ut) M σ tk Φ := by
  obtain ⟨F', rfl, ef, erf⟩ := rf_top tp hmk (node_ne q2)
  have hF := tp.hF
  have f44 := tp.f44
  have le := rn.le
  have bd := bk.bd
  have kd1 : (X.A 5 nd).toInt = 10 ∧ (frm σ F').stage ≠ 0 ∨ (X.A 5 nd).toInt = 11 := by
    rw [ef]
    rcases kd with ⟨z1, z2, -⟩ | ⟨z1, -⟩
    · exact Or.inl ⟨z1, z2⟩
    · exact Or.inr z1
  have kd2 : cOp G r = 12 ∨ cOp G r = 13 := by
    rcases kd with ⟨-, -, z⟩ | ⟨-, z⟩
    · exact Or.inl z
    · exact Or.inr z
  refine ⟨cal_wait c.ar (F := F') (by omega) (by omega) (by rw [ef]; exact q2) q3.1.1 kd1, ?_⟩
  have ha := c.fsa tp.ow1
  have nma := c.vs.neFM ha
  have nsa := c.vs.neFS ha
  have nms := c.vs.neMS
  have fin : ∀ w0, (VS cs lim dE A r1 r2 NF G k4) fa ta nf nt (nxR M a r) w0 → FSt w0 a s (h + 1) (r + 1) → Oth1 w w0 a → (∀ m, 500 ≤ m → F_Ma_work cs dE m M A.ma (some a) (nI r) = (F_Ma_takesFuel cs (nxR M a r) A.ma (some a) (nI r)).2) → (WaA cs lim dE A r1 r2 NF X G k4 mk ut) M σ tk Φ := by
    intro w0 v0 f0 o0 ew
    have sM := o0.same (Ne.symm nma)
    obtain ⟨-, w1, v1, f1, x13, xm, xq, xa, xs⟩ := (v0.fFuel (r := r) ha f0 (by rw [sM.2.1]; exact rn.al) (by rw [sM.2.1]; exact rn.tk) (by omega)).1 htk
    have S1 : ∀ z, z ≠ a → z ≠ A.ma → Same w w1 z := fun z z1 z2 => (o0.same z1).trans (xs z z1 z2)
    have qa : ∀ k, w1.2.2 a k = w.2.2 a k := fun k => by rw [xa, o0.2.2]
    have M1 : ∀ k, k ≠ 13 → w1.2.1 A.ma k = w.2.1 A.ma k := fun k z => by rw [xm k (by simp [si_1, si_2, sl_1, sl_2, sl_3, ai_1, ai_2, ai_3, ai_4, al_1, al_2, al_3, al_4, cp_1, cp_2, cp_3, cp_4, z]), sM.2.1]
    have lS : ∀ z, z ∈ L → Same w w1 z := fun z hz => by
      have hzo : own z = 1 := tp.ow z (by simp [si_1, si_2, sl_1, sl_2, sl_3, ai_1, ai_2, ai_3, ai_4, al_1, al_2, al_3, al_4, cp_1, cp_2, cp_3, cp_4, hz])
      exact S1 z (fun q => (List.nodup_cons.mp tp.nd).1 (by rw [← q]; exact hz)) (c.vs.neFM (c.fsa hzo))
    have tV : ∀ z, FsO ta v z → SameT w w1 z ∧ FsO ta v z := fun z hz => ⟨(S1 z (fun q => c.vs.neFT ha (c.tv hz) q.symm) (c.vs.neTM (c.tv hz))).T, hz⟩
    have c1 : (SimC cs lim dE A r1 r2 NF X G k4) S μ fa ta nf nt u v own Lf Wk (F_Ma_takesFuel cs (nxR M a r) A.ma (some a) (nI r)).2 w1 σ := by
      refine c.same v1 (S1 A.st (Ne.symm nsa) (Ne.symm nms)) (fun i hi => ?_) (fun z hz => S1 z (fun q => by rw [q, tp.ow1] at hz; omega) (c.vs.neFM (c.fs (c := z) (by omega)))) HpE.rfl' c.ar ?_ ?_ ?_ ?_ ?_ (by omega) (by omega)
      · have ti := c.tv (z := ta i) ⟨i, hi, rfl⟩
        exact S1 _ (fun q => c.vs.neFT ha ti q.symm) (c.vs.neTM ti)
      · rw [M1 7 (by decide)]; exact c.th
      · rw [M1 8 (by decide)]; exact c.dp
      · rw [M1 6 (by decide)]; exact c.fu
      · rw [M1 9 (by decide)]; exact c.un
      · rw [M1 5 (by decide)]; exact c.va
    have tp1 : Tp X G S μ w1 (FsO ta v) A own σ mk ut (F' + 1) a L (f :: F2) b rest u1 W1 := tp.next Sto.le.rfl' MpLe.rfl' lS tV (qa 4) (by rw [xq, o0.2.2]) tp.ow f44 hF rfl tp.rf
    exact ⟨1, _, CSts.one (c.stp rn tp.top ha fs ew), ⟨S, μ, fa, ta, nf, nt, u, v, own, Lf, Wk, w1, W, c1, ⟨by rw [M1 4 (by decide)]; exact rn.st, x13, by rw [M1 12 (by decide)]; exact rn.tk, rn.en⟩, ⟨F' + 1, a, L, s, h, r, f :: F2, b, rest, t, u1, W1, tp1, hW, Or.inr ⟨gv, f1, vr, bk.mono Sto.le.rfl' MpLe.rfl' (qa 3) tV⟩⟩⟩, hΦ⟩
  rcases kd2 with z | z
  · obtain ⟨w0, v0, f0, o0, ew⟩ := c.vs.work ha fs (by omega) (op_of (y := 12) z rfl)
    have sM := o0.same (Ne.symm nma)
    refine fin w0 v0 f0 o0 (fun m _ => ?_)
    rw [(ew m).2.2.2.2.2.2.2.2.2.2.1 rfl]
    exact (v0.fWait (n := m) (r := r) ha f0 (by rw [sM.2.1]; exact rn.al) (by rw [sM.2.1]; exact rn.tk) (by omega) htk).1
  · obtain ⟨w0, v0, f0, o0, ew⟩ := c.vs.work ha fs (by omega) (op_of (y := 13) z rfl)
    have sM := o0.same (Ne.symm nma)
    refine fin w0 v0 f0 o0 (fun m _ => ?_)
    rw [(ew m).2.2.2.2.2.2.2.2.2.2.2.1 rfl]
    exact (v0.fWait (n := m) (r := r) ha f0 (by rw [sM.2.1]; exact rn.al) (by rw [sM.2.1]; exact rn.tk) (by omega) htk).2 _
/-- the program has ended -/
theorem got_done (hX : X.Ok) (hmk : mk.node = -1) (c : (SimC cs lim dE A r1 r2 NF X G k4) S μ fa ta nf nt u v own Lf Wk M w σ) (rn : Rn A NF w σ al tk) (tp : Tp X G S μ w (FsO ta v) A own σ mk ut 0 a L Fs b rest u1 W1) (fs : FSt w a s 11 r) (hr : r ≤ 1700) (vr : VR X.P S μ t (s 10) σ.2.1) (hf : Fs = []) (sb : Sbt X.P t u0) (bn : Bnd X G S μ w (FsO ta v) a b u0 u1 r) (hΦ : 1 ≤ Φ) : (EnA cs lim dE A r1 r2 NF G k4 ut) M (mo_si σ 46 2) tk Φ := by
  subst hf
  have rf := tp.rf
  simp only [rfs, List.nil_append, List.cons.injEq] at rf
  obtain ⟨e1, e2⟩ := rf
  subst e1
  have bs := tp.bs
  rw [← e2] at bs
  have hL : L = [] := by
    cases L with
    | nil => rfl
    | cons y L =>
      obtain ⟨_, _, _, Fz, bz, rz, _, _, _, h2, _⟩ := bs
      exfalso
      have := congrArg List.length h2
      simp [si_1, si_2, sl_1, sl_2, sl_3, ai_1, ai_2, ai_3, ai_4, al_1, al_2, al_3, al_4, cp_1, cp_2, cp_3, cp_4] at this
  subst hL
  have sb3 : Sbt X.P u1 ut := bs.2.1
  rcases bn with ⟨b1, b2, b3, b4⟩ | ⟨n, th, l, l', c', g, t0, ub, ks, us, b1, -⟩
  rotate_left
  · exact absurd hmk (node_ne b1)
  have ha := c.fsa tp.ow1
  have nma := c.vs.neFM ha
  obtain ⟨w0, v0, f0, o0, ew⟩ := c.vs.work ha fs (by omega) (op_of (y := 0) b3 rfl)
  have sM := o0.same (Ne.symm nma)
  have hb4 : w0.2.2 a 4 = none := by rw [o0.2.2]; exact tp.lnk.2
  obtain ⟨w1, v1, x4, x5, xm⟩ := v0.fDone ha f0 hb4
  have stp := c.stp rn tp.top ha fs (fun n _ => (ew n).2.2.2.2.2.2.2.2.2.2.2.2 rfl)
  have M1 : ∀ k, k ≠ 4 → k ≠ 5 → w1.2.1 A.ma k = w.2.1 A.ma k := fun k z1 z2 => by rw [xm k (by simp [si_1, si_2, sl_1, sl_2, sl_3, ai_1, ai_2, ai_3, ai_4, al_1, al_2, al_3, al_4, cp_1, cp_2, cp_3, cp_4, z1, z2]), sM.2.1]
  refine ⟨1, _, CSts.one stp, ⟨fa, ta, nf, nt, w1, v1, by simp [si_1, si_2, sl_1, sl_2, sl_3, ai_1, ai_2, ai_3, ai_4, al_1, al_2, al_3, al_4, cp_1, cp_2, cp_3, cp_4], by simp [si_1, si_2, sl_1, sl_2, sl_3, ai_1, ai_2, ai_3, ai_4, al_1, al_2, al_3, al_4, cp_1, cp_2, cp_3, cp_4], ?_, ?_, ?_, ?_, ?_, ?_, fun z => absurd (by simp [si_1, si_2, sl_1, sl_2, sl_3, ai_1, ai_2, ai_3, ai_4, al_1, al_2, al_3, al_4, cp_1, cp_2, cp_3, cp_4]) z, fun _ => ⟨fun z => ?_, fun z z3 => ?_⟩⟩, hΦ⟩
  · rw [x4]; simp [si_1, si_2, sl_1, sl_2, sl_3, ai_1, ai_2, ai_3, ai_4, al_1, al_2, al_3, al_4, cp_1, cp_2, cp_3, cp_4]
  · rw [M1 6 (by decide) (by decide), c.fu]; simp [si_1, si_2, sl_1, sl_2, sl_3, ai_1, ai_2, ai_3, ai_4, al_1, al_2, al_3, al_4, cp_1, cp_2, cp_3, cp_4]
  · rw [M1 7 (by decide) (by decide), c.th.1]; simp [si_1, si_2, sl_1, sl_2, sl_3, ai_1, ai_2, ai_3, ai_4, al_1, al_2, al_3, al_4, cp_1, cp_2, cp_3, cp_4]
  · rw [M1 8 (by decide) (by decide), c.dp.1]; simp [si_1, si_2, sl_1, sl_2, sl_3, ai_1, ai_2, ai_3, ai_4, al_1, al_2, al_3, al_4, cp_1, cp_2, cp_3, cp_4]
  · rw [M1 9 (by decide) (by decide), c.un]; simp [si_1, si_2, sl_1, sl_2, sl_3, ai_1, ai_2, ai_3, ai_4, al_1, al_2, al_3, al_4, cp_1, cp_2, cp_3, cp_4]
  · rw [M1 12 (by decide) (by decide)]; exact rn.tk
  · rw [M1 3 (by decide) (by decide)] at z
    rw [x5, sM.2.1, if_pos z]
  · rw [M1 3 (by decide) (by decide)] at z
    rw [x5, sM.2.1, if_neg z]
    exact (vr.sub hX.fo ((sb.trans b4).trans sb3)).base z3
end
end
