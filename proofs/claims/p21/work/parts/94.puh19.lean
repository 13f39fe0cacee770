-- pure rows: HZ
section
/-! pure rows: a frame of the class ends -/
section
variable {cs : Nat → ClassId} {lim dE : Nat × Nat} {A : Ad} {r1 r2 NF : Nat} {X : Cx} {G : Nat → Int32} {k4 : Nat} {S S' : Sto} {μ μ' : Mp} {fa ta : Nat → Nat} {nf nt u v : Nat} {own : Nat → Nat} {Lf : List Nat} {Wk : Nat → Nat} {M M' : gMem} {w w' : Vw} {σ σ' : mSt} {al tk a h r n nd d cc m W Φ : Nat} {s : Nat → Int32} {mk : Fr} {ut F : Nat} {L : List Nat} {F2 : List Fr} {f b : Fr} {rest : List Fr} {t u0 u1 W1 : Nat} {e : Nat} {x1 : Int32} {g : Nat → Int}
theorem kfs_hp (hp : HpE σ σ') (k : Nat) : kfs σ' (σ'.2.2.1 57 k).toInt.toNat (σ'.2.2.1 58 k).toInt.toNat = kfs σ (σ.2.2.1 57 k).toInt.toNat (σ.2.2.1 58 k).toInt.toNat := by
  have ek : kfr σ' = kfr σ := kfr_of (fun k hk => hp.a k (by omega)) (fun k hk => hp.al k (by omega))
  rw [hp.a 57 (by omega), hp.a 58 (by omega)]
  exact kfs_c (fun i _ _ => by rw [ek])
theorem i32_pred {x : Int32} (h : 1 ≤ x.toInt) (h2 : x.toInt ≤ 400) : (x - 1).toInt = x.toInt - 1 := by ((try (simp only [vp_in, Int32.toNatClampNeg, Int32.lt_iff_toInt_lt, Int32.le_iff_toInt_le, ← Int32.toInt_inj, Int32.toInt_add, Int32.toInt_sub, Int32.toInt_mul, Int32.reduceToInt, i32_neg1, Nat.reducePow, Int.reducePow, ne_eq, ge_iff_le, gt_iff_lt] at *)) <;> (first | omega | ((simp (disch := omega) only [bm32] at *) <;> omega)))
/-- a marked frame is left -/
theorem got_end (hX : X.Ok) (c : (SimC cs lim dE A r1 r2 NF X G k4) S μ fa ta nf nt u v own Lf Wk M w σ) (rn : Rn A NF w σ al tk) (tp : Tp X G S μ w (FsO ta v) A own σ mk ut (F + 1) a L [] b rest u1 W1) (fs : FSt w a s 11 r) (hr : r ≤ 1700) (vr : VR X.P S μ t (s 10) σ.2.1) (gv : σ.1 51 ≠ 0) (op : cOp G r = 0) (sb : Sbt X.P t u0) (bm : b.node = -1) (sb2 : Sbt X.P u0 u1) (hW : W + r = W1 + 1701) (hΦ : Φ = W + sumW Wk S.nk + (1000 - (σ.1 48).toInt.toNat) * 1701 + (al - tk) * 1701) : ∃ σ', F_Mo_comes n σ x1 = (1, σ') ∧ (GoA cs lim dE A r1 r2 NF X G k4 mk ut) M σ' al tk Φ := by
  have rf := tp.rf
  simp only [rfs, List.nil_append, List.cons_append, List.cons.injEq] at rf
  obtain ⟨rb, rr⟩ := rf
  have hF := tp.hF
  obtain ⟨e1, e44⟩ := r_mark (σ := σ) (F := F) (n := n) (x1 := x1) (by have := tp.f44; omega) (by omega) (by rw [rb]; exact bm)
  have bs := tp.bs
  cases L with
  | nil =>
    exfalso
    have := bs.1
    rw [← rr] at this
    simp [si_1, si_2, sl_1, sl_2, sl_3, ai_1, ai_2, ai_3, ai_4, al_1, al_2, al_3, al_4, cp_1, cp_2, cp_3, cp_4] at this
  | cons a2 L2 =>
  obtain ⟨s2, h2, r2', Fs2, b2, rest2, u2, W2, g1, g2, g3, g5, g6⟩ := bs
  have lk := tp.lnk
  have hb4 : w.2.2 a 4 = some a2 := lk.2.1
  have ha := c.fsa tp.ow1
  have hab : a ≠ a2 := fun q => by have := (List.nodup_cons.mp tp.nd).1; rw [q] at this; exact this (by simp [si_1, si_2, sl_1, sl_2, sl_3, ai_1, ai_2, ai_3, ai_4, al_1, al_2, al_3, al_4, cp_1, cp_2, cp_3, cp_4])
  have o2 : own a2 = 1 := tp.ow a2 (by simp [si_1, si_2, sl_1, sl_2, sl_3, ai_1, ai_2, ai_3, ai_4, al_1, al_2, al_3, al_4, cp_1, cp_2, cp_3, cp_4])
  have oa : own a = 1 := tp.ow1
  obtain ⟨d2, u02, e2, pd2, bn2⟩ := g3
  have bd2 := pd2.bd
  obtain ⟨w1, v1, f1, o1, ew⟩ := c.vs.work ha fs (by omega) (op_of (y := 0) op rfl)
  have nma := c.vs.neFM ha
  have nsa := c.vs.neFS ha
  have hB : FsO fa nf a2 := c.fsa o2
  have nmb := c.vs.neFM hB
  have nsb := c.vs.neFS hB
  have nms := c.vs.neMS
  obtain ⟨w2, v2, k1, k2, k3, k4', k5, ⟨k6, k7, k8⟩, k9⟩ := v1.fEnd ha f1 (by rw [o1.2.2]; exact hb4) hab (g1.same (o1.same (Ne.symm hab))) bd2.2.1 bd2.2.2
  have S2 : ∀ c', c' ≠ a → c' ≠ a2 → c' ≠ A.ma → c' ≠ A.st → Same w w2 c' := fun c' z1 z2 z3 z4 => (o1.same z1).trans (k9 c' z1 z2 z3 z4)
  have stp : CStp cs dE A M (F_Ma_end cs (nxR M a r) A.ma (some a)) := c.stp rn tp.top ha fs (fun n _ => (ew n).2.2.2.2.2.2.2.2.2.2.2.2 rfl)
  have ma1 : ∀ k, k ≠ 8 → w2.2.1 A.ma k = w.2.1 A.ma k := fun k hk => by rw [k5 k (by simpa [si_1, si_2, sl_1, sl_2, sl_3, ai_1, ai_2, ai_3, ai_4, al_1, al_2, al_3, al_4, cp_1, cp_2, cp_3, cp_4] using hk), (o1.same (Ne.symm nma)).2.1]
  have len := tp.len
  simp only [List.length_cons] at len
  have e49 : (σ.1 49 - 1).toInt = (σ.1 49).toInt - 1 := i32_pred (by omega) c.dp.2.2
  generalize hs' : mo_si (mo_si σ 44 (σ.1 44 - 1)) 49 (σ.1 49 - 1) = σ' at e1 e44
  have gf : ∀ k, k ≠ 44 → k ≠ 49 → σ'.1 k = σ.1 k := fun k z1 z2 => by rw [← hs']; simp [si_1, si_2, sl_1, sl_2, sl_3, ai_1, ai_2, ai_3, ai_4, al_1, al_2, al_3, al_4, cp_1, cp_2, cp_3, cp_4, z1, z2]
  have g49 : σ'.1 49 = σ.1 49 - 1 := by rw [← hs']; simp [si_1, si_2, sl_1, sl_2, sl_3, ai_1, ai_2, ai_3, ai_4, al_1, al_2, al_3, al_4, cp_1, cp_2, cp_3, cp_4]
  have ga : σ'.2 = σ.2 := by rw [← hs']; rfl
  have hp : HpE σ σ' := ⟨fun k hk => gf k (by omega) (by omega), fun k _ => by rw [ga], fun k _ => by rw [ga]⟩
  have fre : frm σ' = frm σ := frm_of (fun k _ => by rw [ga]) (fun k _ => by rw [ga])
  -- who is whose
  have sc : (SimC cs lim dE A r1 r2 NF X G k4) S μ fa ta nf nt u v (fun z => if z = a then 2 else own z) (a :: Lf) Wk (F_Ma_end cs (nxR M a r) A.ma (some a)) w2 σ' := by
    have tS : ∀ i, i < v → Same w w2 (ta i) := fun i hi => by
      have ti := c.tv (z := ta i) ⟨i, hi, rfl⟩
      exact S2 _ (fun z => c.vs.neFT ha ti z.symm) (fun z => c.vs.neFT hB ti z.symm) (c.vs.neTM ti) (c.vs.neTS ti)
    have hS : ∀ z, 2 ≤ own z → Same w w2 z := fun z hz => by
      have hz' := c.fs (c := z) (by omega)
      exact S2 z (fun q => by rw [q, oa] at hz; omega) (fun q => by rw [q, o2] at hz; omega) (c.vs.neFM hz') (c.vs.neFS hz')
    refine ⟨v2, by rw [k8, (o1.same (Ne.symm nsa)).2.1]; exact c.su, c.uN, by rw [k8, (o1.same (Ne.symm nsa)).2.1]; exact c.sv, c.v1, ⟨⟨k6, ?_⟩, List.nodup_cons.mpr ⟨fun z => ?_, c.lf.2.1⟩, fun z hz => ?_⟩, fun z hz => ?_, ?_, ?_, ?_, ?_, ?_, ?_, ?_, ?_, fun f hf => ?_, fun k hk => ?_, c.ki, ?_, by rw [gf 48 (by omega) (by omega)]; exact c.vt, by rw [gf 48 (by omega) (by omega)]; exact c.sn, by rw [gf 48 (by omega) (by omega), gf 47 (by omega) (by omega)]; exact c.uf⟩
    · rw [k7, (o1.same (Ne.symm nsa)).2.2]
      exact c.lf.1.cong (fun z hz => (hS z (by rw [c.lf.2.2 z hz]; omega)).2.2 4)
    · have := c.lf.2.2 a z; omega
    · by_cases q : z = a
      · simp only [if_pos q]
      · simp only [if_neg q]
        rcases List.mem_cons.mp hz with q2 | q2
        · exact absurd q2 q
        · exact c.lf.2.2 z q2
    · by_cases q : z = a
      · exact c.ou z (by rw [q, oa]; decide)
      · simp only [if_neg q] at hz; exact c.ou z hz
    · rw [ma1 7 (by decide), gf 48 (by omega) (by omega)]; exact c.th
    · rw [k4', (o1.same (Ne.symm nma)).2.1, g49, c.dp.1]
      have := c.dp.2
      exact ⟨rfl, by omega, by omega⟩
    · rw [ma1 6 (by decide), gf 47 (by omega) (by omega)]; exact c.fu
    · rw [ma1 9 (by decide)]; exact c.un
    · rw [ma1 5 (by decide)]; exact c.va
    · rw [gf 56 (by omega) (by omega)]; exact c.nf
    · rw [gf 61 (by omega) (by omega)]; exact c.nk
    · exact c.ar.congr (fun k _ _ => by rw [ga])
    · rw [hp.a 54 (by omega), hp.al 55 (by omega)]
      exact (c.fn f hf).mono hf Sto.le.rfl' MpLe.rfl' (Nat.le_refl _) (fun i hi => ⟨rfl, (tS i hi).T⟩)
    · have kk := c.kn k hk
      have hlt : μ.2 k < v := by obtain ⟨_, _, ⟨z, _⟩, _⟩ := kk; exact z
      refine kk.mono hk Sto.le.rfl' MpLe.rfl' (Nat.le_refl _) (fun i hi => ⟨rfl, (tS i hi).T⟩) ((tS _ hlt).2.1 3) (fun z hz => ⟨hS z (by omega), ?_⟩) (by rw [ga]) (by rw [ga]) (kfs_hp hp k) rfl
      have : z ≠ a := fun q => by rw [q, oa] at hz; omega
      simp only [if_neg this]
      exact hz
    · rw [gf 48 (by omega) (by omega)]; exact c.hw
  refine ⟨σ', e1, 1, _, W2 + 1701 - r2' + sumW Wk S.nk + (1000 - (σ'.1 48).toInt.toNat) * 1701 + (al - tk) * 1701, CSts.one stp, ⟨S, μ, fa, ta, nf, nt, u, v, _, a :: Lf, Wk, w2, W2 + 1701 - r2', sc, ⟨by rw [ma1 4 (by decide)]; exact rn.st, by rw [ma1 13 (by decide)]; exact rn.wt, by rw [ma1 11 (by decide)]; exact rn.al, by rw [ma1 12 (by decide)]; exact rn.tk, rn.le, by rw [gf 46 (by omega) (by omega)]; exact rn.en, by rw [gf 47 (by omega) (by omega)]; exact rn.fl⟩, ⟨F, a2, L2, upd s2 h2 (s 10), h2, r2', Fs2, b2, rest2, u1, u2, W2, ⟨by have := e44; omega, by omega, ?_, (List.nodup_cons.mp tp.nd).2, fun z hz => ?_, ?_, ?_, g5.mono Sto.le.rfl' MpLe.rfl' (fun z hz => ?_) (fun z hz => ?_)⟩, by omega, Or.inr ⟨?_, k1, ?_, d2, u02, e2, pd2.cong (fun j hj => by rw [upd_n (by omega)]), bn2.mono Sto.le.rfl' MpLe.rfl' (by rw [k2, o1.2.2]) (fun z hz => ?_)⟩⟩, rfl⟩, ?_⟩
  · rw [k3]
    have l2 := lk.2.2
    refine ⟨rfl, ?_⟩
    rw [k2, o1.2.2]
    refine l2.cong (fun z hz => ?_)
    have hzo : own z = 1 := tp.ow z (by simp [si_1, si_2, sl_1, sl_2, sl_3, ai_1, ai_2, ai_3, ai_4, al_1, al_2, al_3, al_4, cp_1, cp_2, cp_3, cp_4, hz])
    have hzF := c.fsa hzo
    have nd2 := (List.nodup_cons.mp tp.nd)
    exact (S2 z (fun q => nd2.1 (by rw [← q]; simp [si_1, si_2, sl_1, sl_2, sl_3, ai_1, ai_2, ai_3, ai_4, al_1, al_2, al_3, al_4, cp_1, cp_2, cp_3, cp_4, hz])) (fun q => (List.nodup_cons.mp nd2.2).1 (by rw [← q]; exact hz)) (c.vs.neFM hzF) (c.vs.neFS hzF)).2.2 4
  · have : z ≠ a := fun q => (List.nodup_cons.mp tp.nd).1 (by rw [← q]; exact hz)
    simp only [if_neg this]
    exact tp.ow z (by simp only [List.mem_cons] at hz ⊢; exact Or.inr hz)
  · rw [g49, e49]; omega
  · rw [rfs_c (σ := σ) (fun i _ => by rw [fre]), rr]; exact g2
  · have hzo : own z = 1 := tp.ow z (by simp [si_1, si_2, sl_1, sl_2, sl_3, ai_1, ai_2, ai_3, ai_4, al_1, al_2, al_3, al_4, cp_1, cp_2, cp_3, cp_4, hz])
    have hzF := c.fsa hzo
    have nd2 := (List.nodup_cons.mp tp.nd)
    exact S2 z (fun q => nd2.1 (by rw [← q]; simp [si_1, si_2, sl_1, sl_2, sl_3, ai_1, ai_2, ai_3, ai_4, al_1, al_2, al_3, al_4, cp_1, cp_2, cp_3, cp_4, hz])) (fun q => (List.nodup_cons.mp nd2.2).1 (by rw [← q]; exact hz)) (c.vs.neFM hzF) (c.vs.neFS hzF)
  · have ti := c.tv hz
    exact ⟨(S2 z (fun q => c.vs.neFT ha ti q.symm) (fun q => c.vs.neFT hB ti q.symm) (c.vs.neTM ti) (c.vs.neTS ti)).T, hz⟩
  · rw [gf 51 (by omega) (by omega)]; exact gv
  · rw [upd_s, ga]
    exact (vr.sub hX.fo sb).sub hX.fo sb2
  · have ti := c.tv hz
    exact ⟨(S2 z (fun q => c.vs.neFT ha ti q.symm) (fun q => c.vs.neFT hB ti q.symm) (c.vs.neTM ti) (c.vs.neTS ti)).T, hz⟩
  · rw [gf 48 (by omega) (by omega)]
    omega
end
end
