-- pure rows: IG
section
/-! pure rows: functions are called, on both sides -/
theorem phi_cal {W r W1 l Y Z al tk : Nat} (hW : W + r = W1 + 1701) (hr : r ≤ 1700) (hl : l ≤ 1700) (ht : tk < al) : W1 + 1701 - (r + 1) + 1701 - (l + 1) + Y + Z + (al - (tk + 1)) * 1701 + 1 ≤ W + Y + Z + (al - tk) * 1701 := by
  have h1 : (al - tk) * 1701 = (al - (tk + 1)) * 1701 + 1701 := by
    rw [show al - tk = (al - (tk + 1)) + 1 by omega]
    omega
  omega
section
variable {cs : Nat → ClassId} {lim dE : Nat × Nat} {A : Ad} {r1 r2 NF : Nat} {X : Cx} {G : Nat → Int32} {k4 : Nat} {S S' : Sto} {μ μ' : Mp} {fa fa' ta ta' : Nat → Nat} {nf nf' nt nt' u v v' : Nat} {own : Nat → Nat} {Lf : List Nat} {Wk : Nat → Nat} {M M' : gMem} {w w' : Vw} {σ σ' : mSt} {al tk a h r n nd d cc m W Φ l r' T D f' : Nat} {s : Nat → Int32} {mk : Fr} {ut F : Nat} {L : List Nat} {F2 : List Fr} {f b : Fr} {rest : List Fr} {t u0 u1 W1 : Nat} {e : Nat} {x1 : Int32} {g : Nat → Int}
theorem fin_at {x : Int32} (v1 : (VS cs lim dE A r1 r2 NF G k4) fa ta nf nt M w) (hx : x ≠ 0 ∧ x ≠ 1 ∧ x ≠ 2 ∧ x ≠ 4) (e6 : w.2.1 A.ma 6 = σ.1 47) (e7 : w.2.1 A.ma 7 = σ.1 48) (e8 : w.2.1 A.ma 8 = σ.1 49) (e9 : w.2.1 A.ma 9 = -1) (e12 : w.2.1 A.ma 12 = nI tk) (e5 : w.2.1 A.ma 5 = 0) : (FinA cs lim dE A r1 r2 NF G k4 ut) (cP 8 M A.ma 4 (.int x)) (mo_si σ 46 x) tk := by
  refine ⟨fa, ta, nf, nt, _, v1.putN (ci := 8) (k := 4) (x := x) v1.oM (by decide) (by decide) (by decide) (by decide), by simp [si_1, si_2, sl_1, sl_2, sl_3, ai_1, ai_2, ai_3, ai_4, al_1, al_2, al_3, al_4, cp_1, cp_2, cp_3, cp_4, hx.2.1], by simp [si_1, si_2, sl_1, sl_2, sl_3, ai_1, ai_2, ai_3, ai_4, al_1, al_2, al_3, al_4, cp_1, cp_2, cp_3, cp_4, hx.1], ?_, ?_, ?_, ?_, ?_, ?_, fun _ => ?_, fun z => absurd z (by simp [si_1, si_2, sl_1, sl_2, sl_3, ai_1, ai_2, ai_3, ai_4, al_1, al_2, al_3, al_4, cp_1, cp_2, cp_3, cp_4, hx.2.2.1])⟩
  · rw [vpi_i, if_pos ⟨rfl, rfl⟩]; simp [si_1, si_2, sl_1, sl_2, sl_3, ai_1, ai_2, ai_3, ai_4, al_1, al_2, al_3, al_4, cp_1, cp_2, cp_3, cp_4]
  · rw [vpi_i, if_neg (by omega), e6]; simp [si_1, si_2, sl_1, sl_2, sl_3, ai_1, ai_2, ai_3, ai_4, al_1, al_2, al_3, al_4, cp_1, cp_2, cp_3, cp_4]
  · rw [vpi_i, if_neg (by omega), e7]; simp [si_1, si_2, sl_1, sl_2, sl_3, ai_1, ai_2, ai_3, ai_4, al_1, al_2, al_3, al_4, cp_1, cp_2, cp_3, cp_4]
  · rw [vpi_i, if_neg (by omega), e8]; simp [si_1, si_2, sl_1, sl_2, sl_3, ai_1, ai_2, ai_3, ai_4, al_1, al_2, al_3, al_4, cp_1, cp_2, cp_3, cp_4]
  · rw [vpi_i, if_neg (by omega), e9]; simp [si_1, si_2, sl_1, sl_2, sl_3, ai_1, ai_2, ai_3, ai_4, al_1, al_2, al_3, al_4, cp_1, cp_2, cp_3, cp_4, hx.2.2.2]
  · rw [vpi_i, if_neg (by omega), e12]
  · rw [vpi_i, if_neg (by omega), e5]
theorem fu1 (c : (SimC cs lim dE A r1 r2 NF X G k4) S μ fa ta nf nt u v own Lf Wk M w σ) (rn : Rn A NF w σ al tk) : (σ.1 47 + 1).toInt = (σ.1 47).toInt + 1 := by
  have h1 := c.uf.2
  have h2 := rn.fl
  have h3 := c.vs.NFb.1
  have : (σ.1 47).toInt ≤ 110000 := by omega
  clear c rn h2 h3
  ((try (simp only [vp_in, Int32.toNatClampNeg, Int32.lt_iff_toInt_lt, Int32.le_iff_toInt_le, ← Int32.toInt_inj, Int32.toInt_add, Int32.toInt_sub, Int32.toInt_mul, Int32.reduceToInt, i32_neg1, Nat.reducePow, Int.reducePow, ne_eq, ge_iff_le, gt_iff_lt] at *)) <;> (first | omega | ((simp (disch := omega) only [bm32] at *) <;> omega)))
/-- a frame is entered: what both keep -/
theorem SimC.entered (c : (SimC cs lim dE A r1 r2 NF X G k4) S μ fa ta nf nt u v own Lf Wk M w σ) (huN : u < NF) (v1 : (VS cs lim dE A r1 r2 NF G k4) fa' ta nf' nt M' w') (hnf : nf ≤ nf' ∧ ∀ i, i < nf → fa' i = fa i) (hus : ∀ z, own z ≠ 0 → own z ≠ 2 → z ≠ f') (sf : StF A fa' nf' u w w' f') (oa : own a = 1) (fSame : ∀ z, own z ≠ 0 → z ≠ a → z ≠ f' → Same w w' z) (tS : ∀ i, i < v → Same w w' (ta i)) (s3 : w'.2.1 A.st 3 = w.2.1 A.st 3) (hp : HpE σ σ') (ar : Arr X σ') (th' : w'.2.1 A.ma 7 = σ'.1 48 ∧ σ'.1 48 = σ.1 48) (dp' : w'.2.1 A.ma 8 = σ'.1 49 ∧ 0 ≤ (σ'.1 49).toInt ∧ (σ'.1 49).toInt ≤ 400) (fu' : w'.2.1 A.ma 6 = σ'.1 47) (f1 : (σ'.1 47).toInt = (σ.1 47).toInt + 1) (un' : w'.2.1 A.ma 9 = -1) (va' : w'.2.1 A.ma 5 = 0) :
    ∃ u' Lf', (SimC cs lim dE A r1 r2 NF X G k4) S μ fa' ta nf' nt u' v (fun z => if z = f' then 1 else own z) Lf' Wk M' w' σ' ∧ (own f' = 0 ∨ own f' = 2) := by
  obtain ⟨u', Lf', eu, hu1, hu2, ⟨lk, lnd, low⟩, ou', of'⟩ := c.enterF v1 hnf sf (fun z z1 z2 => (fSame z (by rw [z1]; decide) (fun q => by rw [q, oa] at z1; omega) z2).2.2 4)
  have hNF := c.vs.NFb.1
  have uN := c.uN
  have uf := c.uf
  refine ⟨u', Lf', ⟨v1, eu, ?_, by rw [s3]; exact c.sv, c.v1, ⟨lk, lnd, fun z hz => ?_⟩, fun z hz => ?_, by rw [th'.1, th'.2]; exact ⟨rfl, c.th.2⟩, dp', fu', un', va', by rw [hp.f 56 (by omega)]; exact c.nf, by rw [hp.f 61 (by omega)]; exact c.nk, ar, fun f hf => ?_, fun k hk => ?_, c.ki, by rw [th'.2]; exact c.hw, by rw [th'.2]; exact c.vt, by rw [th'.2]; exact c.sn, by rw [th'.2]; omega⟩, of'⟩
  · omega
  · show (if z = f' then 1 else own z) = 2
    rw [if_neg (low z hz).2]; exact (low z hz).1
  · by_cases q : z = f'
    · exact ou' z (Or.inr q)
    · have hz : (if z = f' then 1 else own z) ≠ 0 := hz
      rw [if_neg q] at hz; exact ou' z (Or.inl hz)
  · rw [hp.a 54 (by omega), hp.al 55 (by omega)]
    exact (c.fn f hf).mono hf Sto.le.rfl' MpLe.rfl' (Nat.le_refl _) (fun i hi => ⟨rfl, (tS i hi).T⟩)
  · have kk := c.kn k hk
    have hlt : μ.2 k < v := by obtain ⟨_, _, ⟨z, _⟩, _⟩ := kk; exact z
    refine kk.mono hk Sto.le.rfl' MpLe.rfl' (Nat.le_refl _) (fun i hi => ⟨rfl, (tS i hi).T⟩) ((tS _ hlt).2.1 3) (fun z hz => ?_) (by rw [hp.a 60 (by omega)]) (by rw [hp.a 59 (by omega)]) (kfs_hp hp k) rfl
    have zf : z ≠ f' := hus z (by omega) (by omega)
    exact ⟨fSame z (by omega) (fun q => by rw [q, oa] at hz; omega) zf, by show (if z = f' then 1 else own z) = 3 + k; rw [if_neg zf]; exact hz⟩
theorem got_cal {f0 a0 rr : Nat} (hX : X.Ok) (hmk : mk.node = -1) (c : (SimC cs lim dE A r1 r2 NF X G k4) S μ fa ta nf nt u v own Lf Wk M w σ) (rn : Rn A NF w σ al tk) (tp : Tp X G S μ w (FsO ta v) A own σ mk ut F a L (f :: F2) b rest u1 W1) (fs : FSt w a s (h + 1) r) (bd : r ≤ 1700 ∧ 10 ≤ h ∧ h < 50) (vr : VR X.P S μ t (s h) σ.2.1) (q2 : f.node.toInt = nd) (q3 : Gd X nd) (kd : (X.A 5 nd).toInt = 10) (ks : f.stage ≠ 0) (a1 : VR X.P S μ f0 (s (h - 1)) f.val) (a2 : X.P.fn f0 a0 rr) (a3 : Sbt X.P t a0) (a4 : 11 ≤ h) (a5 : cOp G r = 12) (a6 : Pd X G S μ d (r + 1) s (h - 1) rr F2 u0 e) (bn : Bnd X G S μ w (FsO ta v) a b u0 u1 e) (hW : W + r = W1 + 1701) (hΦ : Φ = W + sumW Wk S.nk + (1000 - (σ.1 48).toInt.toNat) * 1701 + (al - tk) * 1701) (hn : 42100 ≤ n) (hx : x1.toInt = ((al - tk : Nat) : Int)) (hx0 : x1 ≠ 0) (hv : 0 ≤ f.val.toInt) :
    ∃ σ', F_Mo_comes n σ x1 = (1, σ') ∧ σ'.1 47 = σ.1 47 + 1 ∧ ((σ'.1 46 = 1 ∧ (GoA cs lim dE A r1 r2 NF X G k4 mk ut) M σ' al (tk + 1) Φ) ∨ (σ'.1 46 ≠ 1 ∧ (EnA cs lim dE A r1 r2 NF G k4 ut) M σ' (tk + 1) Φ)) := by
  obtain ⟨F', rfl, ef, erf⟩ := rf_top tp hmk (node_ne q2)
  obtain ⟨hh, rfl⟩ : ∃ z, h = z + 1 := ⟨h - 1, by omega⟩
  rw [Nat.add_sub_cancel] at a1 a6
  have hF := tp.hF
  have ltk : tk < al := by
    rcases Nat.lt_or_ge tk al with z | z
    · exact z
    · exact absurd (Int32.toInt_inj.mp (by rw [hx]; show ((al - tk : Nat) : Int) = 0; omega)) hx0
  have le := rn.le
  have wy := (cal_way (n := n) (x1 := x1) c.ar (F := F') (by have := tp.f44; omega) (by omega) (by rw [ef]; exact q2) q3.1.1 hx0).2.1 ⟨kd, by rw [ef]; exact ks, by rw [ef]; exact hv⟩
  rw [ef] at wy
  have f3 := hX.fo.ge _ _ _ a2
  rcases a1 with ⟨z0, -⟩ | ⟨-, z1, z2, z3, z4⟩ | ⟨-, z1, -⟩
  · omega
  rotate_left
  · omega
  have sn := c.sn
  have th := c.th
  have hvt := c.vt
  have huf := c.uf
  have hfl := rn.fl
  have dpp := c.dp
  have uN : u < NF := by omega
  obtain ⟨fn, l, l', c0, g0, b1, b2, b3, b4, b5, b6, b7, b8⟩ := c.fn f.val.toInt.toNat z2
  replace b8 := fun (_ : Unit) => b8
  have ix : f.val.toInt32.toInt = (f.val.toInt.toNat : Nat) := by rw [Int64.toInt_toInt32, Int.bmod_eq_of_le (by omega) (by omega)]; omega
  have ixn : f.val.toInt32 = nI f.val.toInt.toNat := nI_ofT ix (by omega)
  have e47 := fu1 c rn
  generalize hσf : mo_si σ 47 (σ.1 47 + 1) = σf at wy
  have gf : ∀ k, k ≠ 47 → σf.1 k = σ.1 k := fun k hk => by rw [← hσf]; simp [si_1, si_2, sl_1, sl_2, sl_3, ai_1, ai_2, ai_3, ai_4, al_1, al_2, al_3, al_4, cp_1, cp_2, cp_3, cp_4, hk]
  have gf47 : σf.1 47 = σ.1 47 + 1 := by rw [← hσf]; simp [si_1, si_2, sl_1, sl_2, sl_3, ai_1, ai_2, ai_3, ai_4, al_1, al_2, al_3, al_4, cp_1, cp_2, cp_3, cp_4]
  have gf2 : σf.2 = σ.2 := by rw [← hσf]; rfl
  have arf : Arr X σf := c.ar.congr (fun k _ _ => by rw [gf2])
  have hpf : HpE σ σf := ⟨fun k hk => gf k (by omega), fun k _ => by rw [gf2], fun k _ => by rw [gf2]⟩
  have frf : frm σf = frm σ := frm_of (fun k _ => by rw [gf2]) (fun k _ => by rw [gf2])
  have kk : (X.A 5 fn).toInt = 7 ∨ (X.A 5 fn).toInt = 5 := by rcases b8 () with ⟨z, -⟩ | ⟨z, -⟩ <;> omega
  obtain ⟨rc1, rc2⟩ := r_call (σ := σf) (F := F') (n := n) (i := f.val.toInt.toNat) (fn := fn) (x := f.val.toInt32) hX arf (by rw [gf 44 (by omega)]; have := tp.f44; omega) (by omega) (by omega) (by omega) ix (by rw [gf2]; exact b1) b2.1.1 kk
  replace rc1 := fun (_ : Unit) => rc1
  replace rc2 := fun (_ : Unit) => rc2
  have ha := c.fsa tp.ow1
  have nma := c.vs.neFM ha
  have nsa := c.vs.neFS ha
  have nms := c.vs.neMS
  obtain ⟨w0, v0, f0', o0, ew⟩ := c.vs.work ha fs (by omega) (op_of (y := 12) a5 rfl)
  have sM := o0.same (Ne.symm nma)
  have sS := o0.same (Ne.symm nsa)
  have hTi := c.tv (z := ta (μ.1 f.val.toInt.toNat)) ⟨_, b3, rfl⟩
  have nta : ta (μ.1 f.val.toInt.toNat) ≠ a := fun q => c.vs.neFT ha hTi q.symm
  have ntm := c.vs.neTM hTi
  have nts := c.vs.neTS hTi
  obtain ⟨M3, w3, v3, f3', qa3, m12, m6, mI, mQ, sm3, tT, e1, -⟩ := v0.fApply (al := al) (tk := tk) (v := v) (i := μ.1 f.val.toInt.toNat) (r := r) ha f0' (by omega) (by omega) (by rw [sM.2.1]; exact rn.al) (by rw [sM.2.1]; exact rn.tk) (by omega) ltk (by rw [sS.2.1]; exact c.sv) c.v1.1 z4 b3
  have e1 := e1 (by rw [(o0.same nta).2.1]; exact b5)
  have stp : CStp cs dE A M (F_Ma_apply cs dE (nxR M a r) A.ma (some a) (nI r)) := c.stp rn tp.top ha fs (fun n _ => (ew n).2.2.2.2.2.2.2.2.2.2.1 rfl)
  have M0 : ∀ k, k ≠ 12 → k ≠ 6 → w3.2.1 A.ma k = w.2.1 A.ma k := fun k z1 z2 => by rw [mI k (by simp [si_1, si_2, sl_1, sl_2, sl_3, ai_1, ai_2, ai_3, ai_4, al_1, al_2, al_3, al_4, cp_1, cp_2, cp_3, cp_4, z1, z2]), sM.2.1]
  have n6 : w3.2.1 A.ma 6 = σ.1 47 + 1 := by rw [m6, sM.2.1, c.fu]
  have hDn : σ.1 49 = nI (σ.1 49).toInt.toNat := nI_ofT (by omega) (by omega)
  have e8 : w3.2.1 A.ma 8 = nI (σ.1 49).toInt.toNat := by rw [M0 8 (by decide) (by decide), dpp.1]; exact hDn
  refine ⟨_, wy, ?h47, ?_⟩
  case h47 =>
    by_cases q : σ.1 49 = 400
    · rw [rc1 () (by rw [gf 49 (by omega)]; exact q), si_1, if_neg (by omega)]
      exact gf47
    · obtain ⟨⟨_, _, z⟩, -⟩ := rc2 () (by rw [gf 49 (by omega)]; exact q)
      rw [z.f47]
      exact gf47
  by_cases h400 : σ.1 49 = 400
  · right
    rw [rc1 () (by rw [gf 49 (by omega)]; exact h400)]
    have hD4 : (σ.1 49).toInt.toNat = 400 := by rw [h400]; rfl
    obtain ⟨ed, -⟩ := (v3.fDeep (m := 1) (x := 1) e8 rfl (by omega)).1 (by omega)
    have ne0 : ¬ (1 : Int32) = 0 := by decide
    rw [e1, ed] at stp
    simp only [if_neg ne0] at stp
    exact ⟨by simp [si_1, si_2, sl_1, sl_2, sl_3, ai_1, ai_2, ai_3, ai_4, al_1, al_2, al_3, al_4, cp_1, cp_2, cp_3, cp_4], 1, _, CSts.one stp, fin_at v3 (by decide) (by rw [n6, gf47]) (by rw [M0 7 (by decide) (by decide), gf 48 (by omega)]; exact th.1) (by rw [M0 8 (by decide) (by decide), gf 49 (by omega)]; exact dpp.1) (by rw [M0 9 (by decide) (by decide)]; exact c.un) m12 (by rw [M0 5 (by decide) (by decide)]; exact c.va), by omega⟩
  left
  have hD4 : (σ.1 49).toInt.toNat < 400 := by
    rcases Nat.lt_or_ge (σ.1 49).toInt.toNat 400 with z | z
    · exact z
    · exact absurd (Int32.toInt_inj.mp (by show (σ.1 49).toInt = 400; omega)) h400
  have i49 : (σ.1 49 + 1).toInt = (σ.1 49).toInt + 1 := by clear rc1 rc2 e1 stp ew b8 b6 a6 bn tp c rn fs vr sm3 v3 v0; ((try (simp only [vp_in, Int32.toNatClampNeg, Int32.lt_iff_toInt_lt, Int32.le_iff_toInt_le, ← Int32.toInt_inj, Int32.toInt_add, Int32.toInt_sub, Int32.toInt_mul, Int32.reduceToInt, i32_neg1, Nat.reducePow, Int.reducePow, ne_eq, ge_iff_le, gt_iff_lt] at *)) <;> (first | omega | ((simp (disch := omega) only [bm32] at *) <;> omega)))
  obtain ⟨⟨fr, fm, rw'⟩, hp, e48, e49⟩ := rc2 () (by rw [gf 49 (by omega)]; exact h400)
  rw [gf 48 (by omega)] at e48
  rw [gf 49 (by omega)] at e49
  generalize F_Mo_callFunction n σf f.val.toInt32 = σ' at rw' hp e48 e49 ⊢
  have ed := (v3.fDeep (m := 1) (x := 1) e8 rfl (by omega)).2 (by omega)
  rw [e1, ed] at stp
  simp only [if_true] at stp
  -- the function's body
  have body : ∃ (K mb cb tb : Nat) (gb : Nat → Int), K < 10 ∧ cFd G l 1 = nI K ∧ Cd X.A G cb (X.A 9 fn).toInt.toNat (l + 1) mb ∧ cOp G mb = 0 ∧ mb < l' ∧ Ty X.A X.P X.tk X.gv gb (X.A 9 fn).toInt.toNat tb ∧ Sbt X.P tb rr ∧ ∀ s4 : Nat → Int32, (∀ j, j < 10 → s4 j = if j = K then s (hh + 1) else w.1 (ta (μ.1 f.val.toInt.toNat)) j) → SR X.P S μ gb s4 (nsee σ') := by
    obtain ⟨a9, r9, hf9, ha9, hr9⟩ := z3.fn hX.fo a2
    have vr' : VR X.P S μ a9 (s (hh + 1)) σ.2.1 := (vr.sub hX.fo a3).sub hX.fo ha9
    rcases b8 () with ⟨k7, d1, a7, t7, d2, d3, d4⟩ | ⟨k5, d1, a7, r7, t7, d4, d3, d5⟩
    · obtain ⟨cb, mb, p1, p2, p3, p4, p5, p6, p7⟩ := b6.j7 k7
      obtain ⟨e6, hK⟩ := nmK hX b2.1.1 (by omega)
      obtain ⟨ea, er⟩ := hX.fo.un _ _ _ _ _ hf9 d4
      subst ea er
      refine ⟨_, mb, cb, r9, _, hK, p2.trans e6, p5, p6, by omega, d3, hr9, fun s4 hs4 => ?_⟩
      have n5 : ¬ (X.A 5 fn).toInt = 5 := by omega
      refine d1.xenv (fun k hk hne => ?_) (fun k hk hne => ?_) ?_
      · rw [hs4 k hk, if_neg hne]
      · rw [rw'.see k hk]
        simp only [if_neg n5, n5, false_and, if_false, if_neg hne, gf2]
      · rw [hs4 _ hK, if_pos rfl, rw'.see _ hK]
        simp only [if_neg n5, if_true, gf2]
        exact vr'
    · obtain ⟨cb, mb, mb', p1, p2, p3, p4, p5, p6, p7⟩ := b6.j5 k5
      have rc := hX.rc fn b2.1.1 k5
      have e7 : X.A 7 fn = nI (X.A 7 fn).toInt.toNat := nI_ofT (by omega) (by omega)
      obtain ⟨ea, er⟩ := hX.fo.un _ _ _ _ _ hf9 d4
      subst ea er
      have l9 := p7.2.2.1.lt
      have lq := p7.2.2.2.2.2
      refine ⟨_, mb, cb, t7, _, by omega, p2.trans e7, p5, p6, by omega, d3, (Sbt.of d5).trans hr9, fun s4 hs4 => ?_⟩
      have hK7 : (X.A 7 fn).toInt.toNat < 10 := by omega
      refine d1.xenv (fun k hk hne => ?_) (fun k hk hne => ?_) ?_
      · rw [hs4 k hk, if_neg hne]
      · rw [rw'.see k hk]
        simp only [if_pos k5, k5, true_and, if_true, if_neg hne, gf2, ixn]
      · rw [hs4 _ hK7, if_pos rfl, rw'.see _ hK7]
        simp only [if_pos k5, if_true, gf2]
        exact vr'
  obtain ⟨K, mb, cb, tb, gb, hK, eK, cdb, opb, mbl, tyb, sbb, srb⟩ := body
  have usd := c.usd (a := a) (by rw [tp.ow1]; decide) (by rw [tp.ow1]; decide)
  have q4 : ∀ z, z ≠ a → z ≠ A.ma → Same w w3 z := fun z z1 z2 => (o0.same z1).trans (sm3 z z1 z2)
  have sS3 := q4 A.st (Ne.symm nsa) (Ne.symm nms)
  have qa : ∀ k, w3.2.2 a k = w.2.2 a k := fun k => by rw [qa3, o0.2.2]
  have lb := cdb.lt
  obtain ⟨f', fa', nf', w4, v4, ⟨p1, p2, p3, p4⟩, ⟨n1, n2, n3, n4, n5⟩, ⟨m8, mI4, mQ4⟩, sI4, sf4, sm4⟩ := v3.fCall (l := l) (K := K) (D := (σ.1 49).toInt.toNat) (u := u) (t := ta (μ.1 f.val.toInt.toNat)) (r' := r + 1) (H := hh) (s := s) ha f3' ⟨usd.1, by rw [sS3.2.2]; exact usd.2⟩ tT (by rw [(q4 _ nta ntm).2.1]; exact b4) (by omega) eK hK e8 hD4 (by rw [sS3.2.1]; exact c.su) uN (s (hh + 1))
  have hus : ∀ z, own z ≠ 0 → own z ≠ 2 → z ≠ f' := fun z y1 y2 => by
    have := c.usd (a := z) y1 y2
    exact p4 z ⟨this.1, by rw [sS3.2.2]; exact this.2⟩
  have oa : own a = 1 := tp.ow1
  have naf : a ≠ f' := hus a (by rw [oa]; decide) (by rw [oa]; decide)
  have SM : ∀ z, z ≠ a → z ≠ f' → z ≠ A.ma → z ≠ A.st → Same w w4 z := fun z y1 y2 y3 y4 => (q4 z y1 y3).trans (sm4 z y2 y3 y4)
  have Sa : Same w3 w4 a := sm4 a naf nma nsa
  have fSame : ∀ z, own z ≠ 0 → z ≠ a → z ≠ f' → Same w w4 z := fun z hz y1 y2 => by
    have hz' := c.fs (c := z) hz
    exact SM z y1 y2 (c.vs.neFM hz') (c.vs.neFS hz')
  have tS : ∀ i, i < v → Same w w4 (ta i) := fun i hi => by
    have ti := c.tv (z := ta i) ⟨i, hi, rfl⟩
    exact SM _ (fun q => c.vs.neFT ha ti q.symm) (fun q => v4.neFT p3 ti q.symm) (c.vs.neTM ti) (c.vs.neTS ti)
  have tV : ∀ z, FsO ta v z → SameT w w4 z ∧ FsO ta v z := fun z hz => by
    obtain ⟨i, i1, i2⟩ := hz
    exact ⟨by rw [← i2]; exact (tS i i1).T, i, i1, i2⟩
  have sf' : StF A fa' nf' u w w4 f' := by
    unfold StF at sf4 ⊢
    rw [sS3.2.2, sS3.2.1] at sf4
    by_cases z : f' = a
    · exact absurd z.symm naf
    · have e4 : w3.2.2 f' 4 = w.2.2 f' 4 := (q4 f' z (v4.neFM p3)).2.2 4
      rw [e4] at sf4
      exact sf4
  have M4 : ∀ k, k ≠ 12 → k ≠ 6 → k ≠ 8 → w4.2.1 A.ma k = w.2.1 A.ma k := fun k y1 y2 y3 => by rw [mI4 k (by simp [si_1, si_2, sl_1, sl_2, sl_3, ai_1, ai_2, ai_3, ai_4, al_1, al_2, al_3, al_4, cp_1, cp_2, cp_3, cp_4, y3]), M0 k y1 y2]
  have hpn : HpE σ σ' := hpf.trans hp
  obtain ⟨u', Lf', sc, of'⟩ := c.entered (σ' := σ') uN v4 ⟨p1, p2⟩ hus sf' oa fSame tS (by rw [sI4 3 (by decide), sS3.2.1]) hpn (rw'.arr arf) ⟨by rw [M4 7 (by decide) (by decide) (by decide), e48]; exact th.1, e48⟩ ⟨by rw [m8, e49]; exact (nI_ofT (by rw [i49]; omega) (by omega)).symm, by rw [e49, i49]; omega, by rw [e49, i49]; omega⟩ (by rw [mI4 6 (by decide), n6, rw'.f47, gf47]) (by rw [rw'.f47, gf47]; exact e47) (by rw [M4 9 (by decide) (by decide) (by decide)]; exact c.un) (by rw [M4 5 (by decide) (by decide) (by decide)]; exact c.va)
  have lS : ∀ z, z ∈ L → Same w w4 z := fun z hz => by
    have hzo : own z = 1 := tp.ow z (by simp [si_1, si_2, sl_1, sl_2, sl_3, ai_1, ai_2, ai_3, ai_4, al_1, al_2, al_3, al_4, cp_1, cp_2, cp_3, cp_4, hz])
    exact fSame z (by rw [hzo]; decide) (fun q => (List.nodup_cons.mp tp.nd).1 (by rw [← q]; exact hz)) (hus z (by rw [hzo]; decide) (by rw [hzo]; decide))
  have qa4 : ∀ k, w4.2.2 a k = w.2.2 a k := fun k => by rw [Sa.2.2, qa]
  have gp := b2.part hX (parts_a (n := fn) (by omega) (by omega))
  have hpa := hX.pa fn b2.1.1 (by omega)
  have rfe : rfs σf F' = rfs σ F' := rfs_c (fun i _ => by rw [frf])
  have mb6 := a6.bd
  refine ⟨by rw [rw'.f46, gf 46 (by omega)]; exact rn.en, 1, _, W1 + 1701 - (r + 1) + 1701 - (l + 1) + sumW Wk S.nk + (1000 - (σ'.1 48).toInt.toNat) * 1701 + (al - (tk + 1)) * 1701, CSts.one stp, ⟨S, μ, fa', ta, nf', nt, u', v, _, Lf', Wk, w4, W1 + 1701 - (r + 1) + 1701 - (l + 1), sc, ⟨by rw [M4 4 (by decide) (by decide) (by decide)]; exact rn.st, by rw [M4 13 (by decide) (by decide) (by decide)]; exact rn.wt, by rw [M4 11 (by decide) (by decide) (by decide)]; exact rn.al, by rw [mI4 12 (by decide)]; exact m12, by omega, by rw [rw'.f46, gf 46 (by omega)]; exact rn.en, by rw [rw'.f47, gf47, e47]; omega⟩, ⟨F' + 1, f', a :: L, w4.1 f', 10, l + 1, [], fr, F2 ++ b :: rest, tb, rr, W1 + 1701 - (r + 1), ⟨by have := rw'.f44; omega, by omega, ?_, ?_, fun z hz => ?_, ?_, ?_, ⟨s, hh, r + 1, F2, b, rest, u1, W1, f3'.same Sa, rfl, ⟨d, u0, e, a6, bn.mono Sto.le.rfl' MpLe.rfl' (qa4 3) tV⟩, tp.bs.mono Sto.le.rfl' MpLe.rfl' lS tV, by omega⟩⟩, by omega, Or.inl ⟨rw'.f51, (X.A 9 fn).toInt.toNat, mb, cb, gb, ?_, gp.1, ?_, by omega, ⟨fun _ => rfl, n2, n3⟩, cdb, tyb, ?_, 1, tb, mb, ⟨⟨by omega, by omega, by omega⟩, Or.inl ⟨rfl, rfl, rfl, .rfl'⟩⟩, Or.inl ⟨fm, n4, opb, sbb⟩⟩⟩, rfl⟩, ?_⟩
  · rw [mQ4]
    refine ⟨rfl, ?_⟩
    rw [n5]
    refine ⟨rfl, ?_⟩
    rw [qa4]
    exact tp.lnk.2.cong (fun z hz => (lS z hz).2.2 4)
  · refine List.nodup_cons.mpr ⟨fun z => ?_, tp.nd⟩
    have := tp.ow f' z
    rcases of' with q | q <;> omega
  · show (if z = f' then 1 else own z) = 1
    rcases List.mem_cons.mp hz with q | q
    · rw [if_pos q]
    · by_cases q2 : z = f'
      · rw [if_pos q2]
      · rw [if_neg q2]; exact tp.ow z q
  · rw [e49, i49]; have := tp.len; simp only [List.length_cons]; omega
  · rw [rw'.rf, rfe, List.cons_append, erf]; rfl
  · rw [rw'.f45]; exact (Int.toNat_of_nonneg hpa).symm
  · have := gp.2.1; have := b2.1.2.2; unfold DpOk; omega
  · refine srb _ (fun j hj => ?_)
    rw [n1 j hj]
    by_cases z : j = K
    · rw [if_pos z, if_pos z]
    · rw [if_neg z, if_neg z]; exact (q4 _ nta ntm).1 j
  · rw [e48, hΦ]
    exact phi_cal hW bd.1 (by clear hΦ; omega) ltk
end
end
