-- pure rows: ID
section
/-! pure rows: functions are made -/
section
variable {cs : Nat → ClassId} {lim dE : Nat × Nat} {A : Ad} {r1 r2 NF : Nat} {X : Cx} {G : Nat → Int32} {k4 : Nat} {S S' : Sto} {μ μ' : Mp} {fa ta ta' : Nat → Nat} {nf nt nt' u v : Nat} {own : Nat → Nat} {Lf : List Nat} {Wk : Nat → Nat} {M M' : gMem} {w w' : Vw} {σ σ' : mSt} {al tk a h r n nd d cc m W Φ l r' T τ : Nat} {s : Nat → Int32} {mk : Fr} {ut F : Nat} {L : List Nat} {Fs : List Fr} {b : Fr} {rest : List Fr} {t u0 u1 W1 : Nat} {e : Nat} {x1 : Int32} {g : Nat → Int}
theorem mapF_new : (mapF S μ v).1 S.nf = v := if_pos rfl
theorem stoF_new : (stoF S τ).ft S.nf = τ := if_pos rfl
/-- there are too many things -/
theorem full_end {k : Nat} (c : (SimC cs lim dE A r1 r2 NF X G k4) S μ fa ta nf nt u v own Lf Wk M w σ) (rn : Rn A NF w σ al tk) {M1 : gMem} {w1 : Vw} (v1 : (VS cs lim dE A r1 r2 NF G k4) fa ta nf nt M1 w1) (sm : Same w w1 A.ma) (st : CSts cs dE A k M (cP 8 M1 A.ma 4 (.int 5))) (hk : k ≤ Φ) : (EnA cs lim dE A r1 r2 NF G k4 ut) M (mo_si σ 46 5) tk Φ := by
  refine ⟨k, _, st, ⟨fa, ta, nf, nt, _, v1.putN (ci := 8) (k := 4) (x := 5) v1.oM (by decide) (by decide) (by decide) (by decide), by simp [si_1, si_2, sl_1, sl_2, sl_3, ai_1, ai_2, ai_3, ai_4, al_1, al_2, al_3, al_4, cp_1, cp_2, cp_3, cp_4], by simp [si_1, si_2, sl_1, sl_2, sl_3, ai_1, ai_2, ai_3, ai_4, al_1, al_2, al_3, al_4, cp_1, cp_2, cp_3, cp_4], ?_, ?_, ?_, ?_, ?_, ?_, fun _ => ?_, fun z => absurd z (by simp [si_1, si_2, sl_1, sl_2, sl_3, ai_1, ai_2, ai_3, ai_4, al_1, al_2, al_3, al_4, cp_1, cp_2, cp_3, cp_4])⟩, hk⟩
  · rw [vpi_i, if_pos ⟨rfl, rfl⟩]; simp [si_1, si_2, sl_1, sl_2, sl_3, ai_1, ai_2, ai_3, ai_4, al_1, al_2, al_3, al_4, cp_1, cp_2, cp_3, cp_4]
  · rw [vpi_i, if_neg (by omega), sm.2.1, c.fu]; simp [si_1, si_2, sl_1, sl_2, sl_3, ai_1, ai_2, ai_3, ai_4, al_1, al_2, al_3, al_4, cp_1, cp_2, cp_3, cp_4]
  · rw [vpi_i, if_neg (by omega), sm.2.1, c.th.1]; simp [si_1, si_2, sl_1, sl_2, sl_3, ai_1, ai_2, ai_3, ai_4, al_1, al_2, al_3, al_4, cp_1, cp_2, cp_3, cp_4]
  · rw [vpi_i, if_neg (by omega), sm.2.1, c.dp.1]; simp [si_1, si_2, sl_1, sl_2, sl_3, ai_1, ai_2, ai_3, ai_4, al_1, al_2, al_3, al_4, cp_1, cp_2, cp_3, cp_4]
  · rw [vpi_i, if_neg (by omega), sm.2.1, c.un]; simp [si_1, si_2, sl_1, sl_2, sl_3, ai_1, ai_2, ai_3, ai_4, al_1, al_2, al_3, al_4, cp_1, cp_2, cp_3, cp_4]
  · rw [vpi_i, if_neg (by omega), sm.2.1, rn.tk]
  · rw [vpi_i, if_neg (by omega), sm.2.1, c.va]
theorem deep_end {k : Nat} (c : (SimC cs lim dE A r1 r2 NF X G k4) S μ fa ta nf nt u v own Lf Wk M w σ) (rn : Rn A NF w σ al tk) {M1 : gMem} {w1 : Vw} (v1 : (VS cs lim dE A r1 r2 NF G k4) fa ta nf nt M1 w1) (sm : Same w w1 A.ma) (st : CSts cs dE A k M (cP 8 M1 A.ma 4 (.int 6))) (hk : k ≤ Φ) : (EnA cs lim dE A r1 r2 NF G k4 ut) M (mo_si σ 46 6) tk Φ := by
  refine ⟨k, _, st, ⟨fa, ta, nf, nt, _, v1.putN (ci := 8) (k := 4) (x := 6) v1.oM (by decide) (by decide) (by decide) (by decide), by simp [si_1, si_2, sl_1, sl_2, sl_3, ai_1, ai_2, ai_3, ai_4, al_1, al_2, al_3, al_4, cp_1, cp_2, cp_3, cp_4], by simp [si_1, si_2, sl_1, sl_2, sl_3, ai_1, ai_2, ai_3, ai_4, al_1, al_2, al_3, al_4, cp_1, cp_2, cp_3, cp_4], ?_, ?_, ?_, ?_, ?_, ?_, fun _ => ?_, fun z => absurd z (by simp [si_1, si_2, sl_1, sl_2, sl_3, ai_1, ai_2, ai_3, ai_4, al_1, al_2, al_3, al_4, cp_1, cp_2, cp_3, cp_4])⟩, hk⟩
  · rw [vpi_i, if_pos ⟨rfl, rfl⟩]; simp [si_1, si_2, sl_1, sl_2, sl_3, ai_1, ai_2, ai_3, ai_4, al_1, al_2, al_3, al_4, cp_1, cp_2, cp_3, cp_4]
  · rw [vpi_i, if_neg (by omega), sm.2.1, c.fu]; simp [si_1, si_2, sl_1, sl_2, sl_3, ai_1, ai_2, ai_3, ai_4, al_1, al_2, al_3, al_4, cp_1, cp_2, cp_3, cp_4]
  · rw [vpi_i, if_neg (by omega), sm.2.1, c.th.1]; simp [si_1, si_2, sl_1, sl_2, sl_3, ai_1, ai_2, ai_3, ai_4, al_1, al_2, al_3, al_4, cp_1, cp_2, cp_3, cp_4]
  · rw [vpi_i, if_neg (by omega), sm.2.1, c.dp.1]; simp [si_1, si_2, sl_1, sl_2, sl_3, ai_1, ai_2, ai_3, ai_4, al_1, al_2, al_3, al_4, cp_1, cp_2, cp_3, cp_4]
  · rw [vpi_i, if_neg (by omega), sm.2.1, c.un]; simp [si_1, si_2, sl_1, sl_2, sl_3, ai_1, ai_2, ai_3, ai_4, al_1, al_2, al_3, al_4, cp_1, cp_2, cp_3, cp_4]
  · rw [vpi_i, if_neg (by omega), sm.2.1, rn.tk]
  · rw [vpi_i, if_neg (by omega), sm.2.1, c.va]
/-- CLOSE -/
theorem mk_fun (c : (SimC cs lim dE A r1 r2 NF X G k4) S μ fa ta nf nt u v own Lf Wk M w σ) (rn : Rn A NF w σ al tk) (tp : Tp X G S μ w (FsO ta v) A own σ mk ut F a L Fs b rest u1 W1) (fs : FSt w a s h r) (h10 : 10 ≤ h) (h50 : h < 50) (hr : r ≤ 1700) (op : cOp G r = 8) (fd3 : cFd G r 3 = nI l) (fd2 : cFd G r 2 = -1 ∨ ∃ K, K < 10 ∧ cFd G r 2 = nI K) (hT : σ.1 48 = nI T) (hT1 : T < 1000) {x : Int32} (p : MakesP σ σ' S.nf x) (new : ∀ (w' : Vw) (ta' : Nat → Nat), w'.2.1 (ta' v) 1 = nI r → w'.2.1 (ta' v) 2 = 0 → (∀ j, j < 10 → w'.1 (ta' v) j = if cFd G r 2 = nI j then nI v else s j) → FnR X G (stoF S τ) (mapF S μ v) w' ta' (v + 1) x (nsee σ) S.nf) :
    ∃ M1 w1 ta' nt', CStp cs dE A M M1 ∧ (SimC cs lim dE A r1 r2 NF X G k4) (stoF S τ) (mapF S μ v) fa ta' nf nt' u (v + 1) own Lf Wk M1 w1 σ' ∧ Rn A NF w1 σ' al tk ∧ w1.2.2 A.ma 10 = some a ∧ FSt w1 a (upd s h (nI v)) (h + 1) l ∧ (∀ {Fs' : List Fr} {F' : Nat} {σ2 : mSt}, (σ2.1 44).toInt = F' → F' ≤ 16440 → σ2.1 49 = σ.1 49 → rfs σ2 F' ++ [mk] = Fs' ++ b :: rest → Tp X G (stoF S τ) (mapF S μ v) w1 (FsO ta' (v + 1)) A own σ2 mk ut F' a L Fs' b rest u1 W1) ∧ (∀ {r2 : Nat} {s2 : Nat → Int32} {h2 t2 : Nat} {Fs' : List Fr}, Bk X G S μ w (FsO ta v) a r2 s2 h2 Fs' b t2 u1 → Bk X G (stoF S τ) (mapF S μ v) w1 (FsO ta' (v + 1)) a r2 s2 h2 Fs' b t2 u1) := by
  have ha := c.fsa tp.ow1
  have nma := c.vs.neFM ha
  have nsa := c.vs.neFS ha
  have hvt := c.vt
  rw [hT, nT (by omega)] at hvt
  obtain ⟨w0, v0, f0, o0, ew⟩ := c.vs.work ha fs (by omega) (op_of (y := 8) op rfl)
  have sM := o0.same (Ne.symm nma)
  have sS := o0.same (Ne.symm nsa)
  obtain ⟨ta', nt', w1, v1, q1, q2, q3, f1, qa, ⟨t1, t2, t3⟩, m7, mI, mQ, s3, sI, sQ, sm⟩ := v0.fClose (T := T) (v := v) ha f0 h10 h50 (by rw [sM.2.1, c.th.1]; exact hT) hT1 (by rw [sS.2.1]; exact c.sv) (by omega) (by omega) fd3 fd2
  have stp : CStp cs dE A M (F_Ma_close cs dE (nxR M a r) A.ma (some a) (nI r)) := c.stp rn tp.top ha fs (fun n _ => (ew n).2.2.2.2.2.2.2.1 rfl)
  have hT' : FsO ta' nt' (ta' v) := ⟨v, q3, rfl⟩
  have SM : ∀ c', c' ≠ a → c' ≠ ta' v → c' ≠ A.ma → c' ≠ A.st → Same w w1 c' := fun c' z1 z2 z3 z4 => (o0.same z1).trans (sm c' z1 z2 z3 z4)
  have hv := c.v1
  have sc := c.make (τ := τ) (T := T) v1 ⟨q1, q2, q3⟩ (by omega) hT hT1 m7 (fun k hk => by rw [mI k hk, sM.2.1]) s3 (fun k hk => by rw [sI k hk, sS.2.1]) (fun k => by rw [sQ, sS.2.2]) ha tp.ow1 SM p (new w1 ta' t1 t2 t3)
  have tS : ∀ z, FsO ta v z → SameT w w1 z ∧ FsO ta' (v + 1) z := fun z hz => by
    obtain ⟨i, i1, i2⟩ := hz
    have ti := c.tv (z := z) ⟨i, i1, i2⟩
    have e := q2 i (by omega)
    refine ⟨(SM z (fun q => c.vs.neFT ha ti q.symm) (fun q => ?_) (c.vs.neTM ti) (c.vs.neTS ti)).T, i, by omega, by rw [e]; exact i2⟩
    have := v1.ti i v (by omega) q3 (by rw [e, i2, q])
    omega
  have lS : ∀ z, z ∈ L → Same w w1 z := fun z hz => by
    have hzo : own z = 1 := tp.ow z (by simp [si_1, si_2, sl_1, sl_2, sl_3, ai_1, ai_2, ai_3, ai_4, al_1, al_2, al_3, al_4, cp_1, cp_2, cp_3, cp_4, hz])
    have hzF := c.fsa hzo
    exact SM z (fun q => (List.nodup_cons.mp tp.nd).1 (by rw [← q]; exact hz)) (fun q => v1.neFT hzF hT' q) (c.vs.neFM hzF) (c.vs.neFS hzF)
  have qt : w1.2.2 A.ma 10 = w.2.2 A.ma 10 := by rw [mQ, o0.2.2]
  have qa' : ∀ k, w1.2.2 a k = w.2.2 a k := fun k => by rw [qa, o0.2.2]
  refine ⟨_, w1, ta', nt', stp, sc, ⟨?_, ?_, ?_, ?_, rn.le, ?_, ?_⟩, by rw [qt]; exact tp.top, f1, fun f44 hF e49 rf => tp.next stoF_le mapF_le lS tS (qa' 4) qt tp.ow f44 hF e49 rf, fun bk => bk.mono stoF_le mapF_le (qa' 3) tS⟩
  · rw [mI 4 (by decide), sM.2.1]; exact rn.st
  · rw [mI 13 (by decide), sM.2.1]; exact rn.wt
  · rw [mI 11 (by decide), sM.2.1]; exact rn.al
  · rw [mI 12 (by decide), sM.2.1]; exact rn.tk
  · rw [p.f 46 (by omega) (by omega)]; exact rn.en
  · rw [p.f 47 (by omega) (by omega)]; exact rn.fl
/-- fn, or rec, where there is no room -/
theorem now_full (c : (SimC cs lim dE A r1 r2 NF X G k4) S μ fa ta nf nt u v own Lf Wk M w σ) (rn : Rn A NF w σ al tk) (tp : Tp X G S μ w (FsO ta v) A own σ mk ut F a L Fs b rest u1 W1) (fs : FSt w a s h r) (hr : r ≤ 1700) (op : cOp G r = 8 ∨ cOp G r = 9) (h48 : σ.1 48 = 1000) (hΦ : 1 ≤ Φ) : (EnA cs lim dE A r1 r2 NF G k4 ut) M (mo_si σ 46 5) tk Φ := by
  have ha := c.fsa tp.ow1
  have nma := c.vs.neFM ha
  rcases op with op | op
  · obtain ⟨w0, v0, f0, o0, ew⟩ := c.vs.work ha fs (by omega) (op_of (y := 8) op rfl)
    have sM := o0.same (Ne.symm nma)
    obtain ⟨e1, -⟩ := (v0.fFull (T := 1000) (m := 1) (x := 1) (by rw [sM.2.1, c.th.1, h48]; rfl) rfl (by omega)).1 (by omega)
    refine full_end c rn v0 sM (CSts.one (c.stp rn tp.top ha fs (fun n _ => ?_))) hΦ
    rw [(ew n).2.2.2.2.2.2.2.1 rfl]
    unfold F_Ma_close
    have ne0 : ¬ (1 : Int32) = 0 := by decide
    simp only [mbind_eq, e1, if_neg ne0]
  · obtain ⟨w0, v0, f0, o0, ew⟩ := c.vs.work ha fs (by omega) (op_of (y := 9) op rfl)
    have sM := o0.same (Ne.symm nma)
    obtain ⟨e1, -⟩ := (v0.fFull (T := 1000) (m := 1) (x := 1) (by rw [sM.2.1, c.th.1, h48]; rfl) rfl (by omega)).1 (by omega)
    refine full_end c rn v0 sM (CSts.one (c.stp rn tp.top ha fs (fun n _ => ?_))) hΦ
    rw [(ew n).2.2.2.2.2.2.2.2.1 rfl]
    unfold F_Ma_install
    have ne0 : ¬ (1 : Int32) = 0 := by decide
    simp only [mbind_eq, e1, if_neg ne0]
theorem now_fn (hX : X.Ok) (c : (SimC cs lim dE A r1 r2 NF X G k4) S μ fa ta nf nt u v own Lf Wk M w σ) (rn : Rn A NF w σ al tk) (tp : Tp X G S μ w (FsO ta v) A own σ mk ut F a L Fs b rest u1 W1) (f45 : (σ.1 45).toInt = nd) (gd : Gd X nd) (kd : (X.A 5 nd).toInt = 7) (fs : FSt w a s h r) (cd : Cd X.A G cc nd r r') (ty : Ty X.A X.P X.tk X.gv g nd t) (sr : SR X.P S μ g s (nsee σ)) (bk : Bk X G S μ w (FsO ta v) a r' s h Fs b t u1) (hW : W + r = W1 + 1701) (hΦ : Φ = W + sumW Wk S.nk + (1000 - (σ.1 48).toInt.toNat) * 1701 + (al - tk) * 1701) (hn : 12 ≤ n) : ((F_Mo_workNode n σ).1 46 = 1 ∧ (GoA cs lim dE A r1 r2 NF X G k4 mk ut) M (F_Mo_workNode n σ) al tk Φ) ∨ ((F_Mo_workNode n σ).1 46 ≠ 1 ∧ (EnA cs lim dE A r1 r2 NF G k4 ut) M (F_Mo_workNode n σ) tk Φ) := by
  have bd := bk.bd
  have lt := cd.lt
  obtain ⟨c0, m, q1, q2, q3, q4, q5, q6, rfl⟩ := cd.j7 kd
  obtain ⟨a1, t1, y1, y2, y3⟩ := ty.i7 kd
  obtain ⟨-, -, -, -, -, y7, -⟩ := wn_way (n := n) c.ar f45 gd.1.1
  have th := c.th
  have sn := c.sn
  obtain ⟨-, o⟩ := makes_ok (σ := σ) (F := S.nf) (fun _ => by omega) c.nf th.2 (x := σ.1 45) hn
  rcases o with ⟨o1, o2⟩ | ⟨o1, o2, o3, p⟩
  · right
    rw [y7 kd, o2]
    simp only [if_true]
    exact ⟨by simp [si_1, si_2, sl_1, sl_2, sl_3, ai_1, ai_2, ai_3, ai_4, al_1, al_2, al_3, al_4, cp_1, cp_2, cp_3, cp_4], now_full c rn tp fs (by omega) (Or.inl q1) o1 (by omega)⟩
  · left
    have o3' : ¬ (1 : Int32) = 0 := by decide
    rw [y7 kd, o3, if_neg o3']
    generalize (F_Mo_makes n σ (σ.1 45)).2 = σ1 at p ⊢
    have hT : σ.1 48 = nI (σ.1 48).toInt.toNat := nI_ofT (by omega) (by omega)
    have i1 : (σ1.1 56 - 1).toInt = S.nf := by have := p.f56; clear p c rn tp fs cd ty sr bk; ((try (simp only [vp_in, Int32.toNatClampNeg, Int32.lt_iff_toInt_lt, Int32.le_iff_toInt_le, ← Int32.toInt_inj, Int32.toInt_add, Int32.toInt_sub, Int32.toInt_mul, Int32.reduceToInt, i32_neg1, Nat.reducePow, Int.reducePow, ne_eq, ge_iff_le, gt_iff_lt] at *)) <;> (first | omega | ((simp (disch := omega) only [bm32] at *) <;> omega)))
    have i2 : (σ1.1 56 - 1).toInt64.toInt = S.nf := by rw [Int32.toInt_toInt64]; exact i1
    obtain ⟨M1, w1, ta', nt', st, sc, rn1, ht1, f1, tpn, bkn⟩ := mk_fun (l := m + 1) (τ := t) (T := (σ.1 48).toInt.toNat) c rn tp fs bd.2.1 bd.2.2 (by omega) q1 (nI_ofT q4 (by omega)) (Or.inl q3) hT (by omega) p (fun w' ta'' z1 z2 z3 => ⟨nd, r, m + 1, cc, g, f45, gd, by rw [mapF_new]; omega, by rw [mapF_new]; exact z1, by rw [mapF_new]; exact z2, cd, bd.1, Or.inl ⟨kd, by
        rw [mapF_new]
        refine (sr.mono stoF_le mapF_le).congr (fun k hk => ?_) (fun _ _ => rfl)
        rw [z3 k hk, if_neg (fun q => by rw [q3] at q; have := congrArg Int32.toInt q; rw [nT (by omega), i32_neg1] at this; omega)], a1, t1, y1, y2, by rw [stoF_new]; exact y3⟩⟩)
    have f44 : (σ1.1 44).toInt = F := by rw [p.f 44 (by omega) (by omega)]; exact tp.f44
    obtain ⟨rg, hp, e48, e49⟩ := Rg.give (σ := σ1) f44 (σ1.1 56 - 1).toInt64
    have efr : frm σ1 = frm σ := frm_of (fun k hk => p.a k (by omega)) (fun k hk => p.al k (by omega))
    have erf : rfs σ1 F = rfs σ F := rfs_c (fun i _ => by rw [efr])
    refine ⟨by rw [rg.f46, p.f 46 (by omega) (by omega)]; exact rn.en, 1, M1, W1 + 1701 - (m + 1) + sumW Wk S.nk + (1000 - ((F_Mo_give σ1 (σ1.1 56 - 1).toInt64).1 48).toInt.toNat) * 1701 + (al - tk) * 1701, CSts.one st, ⟨stoF S t, mapF S μ v, fa, ta', nf, nt', u, v + 1, own, Lf, Wk, w1, W1 + 1701 - (m + 1), sc.same sc.vs Same.rfl' (fun _ _ => Same.rfl') (fun _ _ => Same.rfl') hp (rg.arr sc.ar) (by rw [e48]; exact sc.th) (by rw [e49]; exact sc.dp) (by rw [rg.f47]; exact sc.fu) sc.un sc.va (by rw [e48]; omega) (by rw [rg.f47]; omega), ⟨rn1.st, rn1.wt, rn1.al, rn1.tk, rn1.le, by rw [rg.f46]; exact rn1.en, by rw [rg.f47]; exact rn1.fl⟩, ⟨F, a, L, upd s h (nI v), h, m + 1, Fs, b, rest, t, u1, W1, tpn rg.f44 tp.hF (by rw [e49, p.f 49 (by omega) (by omega)]) (by rw [rg.rf, erf]; exact tp.rf), by omega, Or.inr ⟨rg.f51, f1, ?_, bkn (bk.cong (fun j hj => by rw [upd_n (by omega)]))⟩⟩, rfl⟩, ?_⟩
    · rw [upd_s, rg.vl]
      refine Or.inr (Or.inl ⟨hX.fo.ge _ _ _ y3, by rw [i2]; omega, ?_, ?_, ?_⟩)
      · rw [i2, Int.toNat_natCast]; exact Nat.lt_succ_self _
      · rw [i2, Int.toNat_natCast, stoF_new]; exact .rfl'
      · rw [i2, Int.toNat_natCast, mapF_new]
    · have := p.f48
      rw [e48]
      omega
theorem now_rec (hX : X.Ok) (c : (SimC cs lim dE A r1 r2 NF X G k4) S μ fa ta nf nt u v own Lf Wk M w σ) (rn : Rn A NF w σ al tk) (tp : Tp X G S μ w (FsO ta v) A own σ mk ut F a L Fs b rest u1 W1) (f45 : (σ.1 45).toInt = nd) (gd : Gd X nd) (kd : (X.A 5 nd).toInt = 5) (dp : DpOk X nd h) (fs : FSt w a s h r) (cd : Cd X.A G cc nd r r') (ty : Ty X.A X.P X.tk X.gv g nd t) (sr : SR X.P S μ g s (nsee σ)) (bk : Bk X G S μ w (FsO ta v) a r' s h Fs b t u1) (hW : W + r = W1 + 1701) (hΦ : Φ = W + sumW Wk S.nk + (1000 - (σ.1 48).toInt.toNat) * 1701 + (al - tk) * 1701) (hn : 12 ≤ n) : ((F_Mo_workNode n σ).1 46 = 1 ∧ (GoA cs lim dE A r1 r2 NF X G k4 mk ut) M (F_Mo_workNode n σ) al tk Φ) ∨ ((F_Mo_workNode n σ).1 46 ≠ 1 ∧ (EnA cs lim dE A r1 r2 NF G k4 ut) M (F_Mo_workNode n σ) tk Φ) := by
  have bd := bk.bd
  have lt := cd.lt
  have cd0 := cd
  obtain ⟨c0, m, m', q1, q2, q3, q4, q5, q6, q7, q8, q9, q10, q11, rfl⟩ := cd.j5 kd
  have l5 := q5.lt
  have l9 := q9.lt
  obtain ⟨τ, a1, r1', t0, y1, y2, y3, y4, y5⟩ := ty.i5 kd
  obtain ⟨-, -, -, -, w5, -⟩ := wn_way (n := n) c.ar f45 gd.1.1
  obtain ⟨e6, hK⟩ := nmK hX gd.1.1 (by omega)
  have hpb := hX.pb nd gd.1.1 (by omega)
  have gp := gd.part hX (parts_b (n := nd) (by omega))
  have th := c.th
  have sn := c.sn
  have t3 := hX.fo.ge _ _ _ y2
  obtain ⟨-, o⟩ := makes_ok (σ := σ) (F := S.nf) (fun _ => by omega) c.nf th.2 (x := σ.1 45) hn
  rcases o with ⟨o1, o2⟩ | ⟨o1, o2, o3, p⟩
  · right
    rw [w5 kd, o2]
    simp only [if_true]
    exact ⟨by simp [si_1, si_2, sl_1, sl_2, sl_3, ai_1, ai_2, ai_3, ai_4, al_1, al_2, al_3, al_4, cp_1, cp_2, cp_3, cp_4], now_full c rn tp fs (by omega) (Or.inl q1) o1 (by omega)⟩
  · left
    have o3' : ¬ (1 : Int32) = 0 := by decide
    rw [w5 kd, o3, if_neg o3']
    generalize (F_Mo_makes n σ (σ.1 45)).2 = σ1 at p ⊢
    have hT : σ.1 48 = nI (σ.1 48).toInt.toNat := nI_ofT (by omega) (by omega)
    have i1 : (σ1.1 56 - 1).toInt = S.nf := by have := p.f56; clear p c rn tp fs cd ty sr bk cd0 q5 q9 y3 y5; ((try (simp only [vp_in, Int32.toNatClampNeg, Int32.lt_iff_toInt_lt, Int32.le_iff_toInt_le, ← Int32.toInt_inj, Int32.toInt_add, Int32.toInt_sub, Int32.toInt_mul, Int32.reduceToInt, i32_neg1, Nat.reducePow, Int.reducePow, ne_eq, ge_iff_le, gt_iff_lt] at *)) <;> (first | omega | ((simp (disch := omega) only [bm32] at *) <;> omega)))
    have i2 : (σ1.1 56 - 1).toInt64.toInt = S.nf := by rw [Int32.toInt_toInt64]; exact i1
    have i3 : (nI S.nf).toInt64.toInt = S.nf := by rw [Int32.toInt_toInt64, nT (by omega)]
    have vnew : ∀ vl : Int64, vl.toInt = S.nf → VR X.P (stoF S τ) (mapF S μ v) τ (nI v) vl := fun vl hvl => by
      refine Or.inr (Or.inl ⟨t3, by rw [hvl]; omega, ?_, ?_, ?_⟩)
      · rw [hvl, Int.toNat_natCast]; exact Nat.lt_succ_self _
      · rw [hvl, Int.toNat_natCast, stoF_new]; exact .rfl'
      · rw [hvl, Int.toNat_natCast, mapF_new]
    obtain ⟨M1, w1, ta', nt', st, sc, rn1, ht1, f1, tpn, bkn⟩ := mk_fun (l := m + 1) (τ := τ) (T := (σ.1 48).toInt.toNat) c rn tp fs bd.2.1 bd.2.2 (by omega) q1 (nI_ofT q4 (by omega)) (Or.inr ⟨_, hK, q3.trans e6⟩) hT (by omega) p (fun w' ta'' z1 z2 z3 => ⟨nd, r, m' + 1, cc, g, f45, gd, by rw [mapF_new]; omega, by rw [mapF_new]; exact z1, by rw [mapF_new]; exact z2, cd0, bd.1, Or.inr ⟨kd, by
        rw [mapF_new, stoF_new]
        refine (sr.mono stoF_le mapF_le).xenv (fun k hk hne => ?_) (fun k hk hne => if_neg hne) ?_
        · rw [z3 k hk, if_neg (fun q => hne (by rw [q3.trans e6] at q; exact (nI_inj (by omega) (by omega) q).symm))]
        · rw [z3 _ hK, if_pos (q3.trans e6), if_pos rfl]
          exact vnew _ i3, a1, r1', t0, by rw [stoF_new]; exact y2, by rw [stoF_new]; exact y3, y4⟩⟩)
    have dpb : (h : Int) + 1 + (X.A 13 (X.A 10 nd).toInt.toNat).toInt ≤ 50 := by have := gp.2.1; unfold DpOk at dp; omega
    have h50 : h + 1 < 50 := by have := gp.2.2; omega
    obtain ⟨M2, w2, ⟨st2, sc2, rn2, ht2⟩, f2, o2'⟩ := stp_bind sc rn1 ht1 tp.ow1 f1 bd.2.1 bd.2.2 (by omega) q7 (q8.trans e6) hK
    have f44 : (σ1.1 44).toInt = F := by rw [p.f 44 (by omega) (by omega)]; exact tp.f44
    have e6' : σ1.2.2.1 6 nd = X.A 6 nd := sc.ar 6 (by omega) (by omega) nd gd.1.1
    have e10' : σ1.2.2.1 10 nd = X.A 10 nd := sc.ar 10 (by omega) (by omega) nd gd.1.1
    have y6 : (X.A 6 nd).toNatClampNeg = (X.A 6 nd).toInt.toNat := rfl
    rw [e6', e10', y6]
    obtain ⟨rw', hp, e48, e49⟩ := Rw.of (σ := σ1) (σ1 := mo_al σ1 53 (X.A 6 nd).toInt.toNat (σ1.1 56 - 1).toInt64) (F := F) (x := X.A 10 nd) (fun k hk => rfl) f44 rfl (fun k hk => by funext i; simp [si_1, si_2, sl_1, sl_2, sl_3, ai_1, ai_2, ai_3, ai_4, al_1, al_2, al_3, al_4, cp_1, cp_2, cp_3, cp_4, hk])
    have efr : frm σ1 = frm σ := frm_of (fun k hk => p.a k (by omega)) (fun k hk => p.al k (by omega))
    have erf : rfs σ1 F = rfs σ F := rfs_c (fun i _ => by rw [efr])
    have ens : nsee σ1 = nsee σ := by unfold nsee; rw [p.al 53 (by omega)]
    have en := nsee_al (σ := σ1) (y := (X.A 6 nd).toInt.toNat) (v := (σ1.1 56 - 1).toInt64) hK
    have ha := sc.fsa tp.ow1
    have tp1 := tpn (Fs' := Fs) f44 tp.hF (by rw [p.f 49 (by omega) (by omega)]) (by rw [erf]; exact tp.rf)
    have bk1 := bkn bk
    obtain ⟨d, u0, e, pd, bn⟩ := bk1
    have gob := goNow (M := M1) (M' := M2) (k := 1) (r := m + 1) (W := W1 + 1701 - (m + 1)) (F' := F) (rx := m + 2) (h2 := h + 1) (nd := (X.A 10 nd).toInt.toNat) (Φ := W1 + 1701 - (m + 1) + sumW Wk (stoF S τ).nk + (1000 - (σ1.1 48).toInt.toNat) * 1701 + (al - tk) * 1701) tp1 sc o2' sc2 rn2 (CSts.one st2) rw' hp e48 e49 tp.hF (by rw [erf]; exact tp.rf) (Int.toNat_of_nonneg hpb).symm gp.1 dpb (by omega) f2 q9 y5 ((sr.mono stoF_le mapF_le).xenv (fun k hk hne => by rw [upd_n hne, upd_n (by omega), upd_n (by omega)]) (fun k hk hne => by rw [en.2 k hk hne, ens]) (by rw [upd_s, upd_s, en.1]; exact vnew _ i2)) ⟨d + 1, u0, e, ⟨⟨by omega, by omega, h50⟩, Or.inr (Or.inl ⟨_, hK, q10, q11.trans e6, by omega, by
        rw [Nat.add_sub_cancel]
        refine pd.cong (fun j hj => ?_)
        by_cases z : j = (X.A 6 nd).toInt.toNat
        · rw [z, upd_s, upd_n (by omega), upd_s, upd_n (by omega)]
        · rw [upd_n z, upd_n z, upd_n (by omega), upd_n (by omega)]⟩)⟩, bn.mono Sto.le.rfl' MpLe.rfl' (o2'.2.2 a 3) (sc.tvo ha o2')⟩ (by omega) (by omega) (by omega) rfl
    refine ⟨by rw [rw'.f46, p.f 46 (by omega) (by omega)]; exact rn.en, ?_⟩
    obtain ⟨k2, M3, Φ3, g1, g2, g3⟩ := gob
    refine ⟨1 + k2, M3, Φ3, CSts.trans (CSts.one st) g1, g2, ?_⟩
    have := p.f48
    have e7 : (stoF S τ).nk = S.nk := rfl
    rw [e7] at g3
    omega
end
end
