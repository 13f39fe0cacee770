-- pure rows: IL
section
/-! pure rows: continuations are gone on with, on both sides -/
theorem phi_res {W r W1 W2 rk Y Y' V Z al tk : Nat} (hW : W + r = W1 + 1701) (hr : r ≤ 1700) (g6 : V + rk = W2 + 1701) (hk : rk ≤ 1700) (hY : Y' + V = Y) : W2 + (W1 + 1701 - (r + 1)) + 1701 - rk + Y' + Z + (al - (tk + 1)) * 1701 + 1 ≤ W + Y + Z + (al - tk) * 1701 := by
  have h1 : (al - (tk + 1)) * 1701 ≤ (al - tk) * 1701 := Nat.mul_le_mul_right _ (by omega)
  omega
section
variable {cs : Nat → ClassId} {lim dE : Nat × Nat} {A : Ad} {r1 r2 NF : Nat} {X : Cx} {G : Nat → Int32} {k4 : Nat} {S S' : Sto} {μ μ' : Mp} {fa fa' ta ta' : Nat → Nat} {nf nf' nt nt' u v v' : Nat} {own : Nat → Nat} {Lf : List Nat} {Wk : Nat → Nat} {M M' : gMem} {w w' : Vw} {σ σ' : mSt} {al tk a h r n nd d cc m W Φ l r' T D f' : Nat} {s : Nat → Int32} {mk : Fr} {ut F : Nat} {L : List Nat} {F2 : List Fr} {f b : Fr} {rest : List Fr} {t u0 u1 W1 : Nat} {e : Nat} {x1 : Int32} {g : Nat → Int}
theorem got_res {f0 a0 rr fk mk' : Nat} (hX : X.Ok) (hmk : mk.node = -1) (c : (SimC cs lim dE A r1 r2 NF X G k4) S μ fa ta nf nt u v own Lf Wk M w σ) (rn : Rn A NF w σ al tk) (tp : Tp X G S μ w (FsO ta v) A own σ mk ut F a L (f :: F2) b rest u1 W1) (fs : FSt w a s (h + 1) r) (bd : r ≤ 1700 ∧ 10 ≤ h ∧ h < 50) (vr : VR X.P S μ t (s h) σ.2.1) (q2 : f.node.toInt = nd) (q3 : Gd X nd) (kd : (X.A 5 nd).toInt = 10) (ks : f.stage ≠ 0) (a1 : VR X.P S μ f0 (s (h - 1)) f.val) (a2 : X.P.fn f0 a0 rr) (a3 : Sbt X.P t a0) (a4 : 11 ≤ h) (a5 : cOp G r = 12) (a6 : Pd X G S μ d (r + 1) s (h - 1) rr F2 u0 e) (bn : Bnd X G S μ w (FsO ta v) a b u0 u1 e) (hW : W + r = W1 + 1701) (hΦ : Φ = W + sumW Wk S.nk + (1000 - (σ.1 48).toInt.toNat) * 1701 + (al - tk) * 1701) (hn : 42100 ≤ n) (hx : x1.toInt = ((al - tk : Nat) : Int)) (hx0 : x1 ≠ 0) (hv : f.val.toInt < 0) (k57 : (σ.2.2.1 57 (-1 - f.val.toInt).toNat).toInt = fk) (k58 : (σ.2.2.1 58 (-1 - f.val.toInt).toNat).toInt = mk') (kfm : fk + mk' ≤ 42000) (kF : σ.1 49 + σ.2.2.1 59 (-1 - f.val.toInt).toNat ≤ 400 → F + mk' ≤ 17000) (hb : ((F_Mo_comes n σ x1).2.1 46 = 1 → ((F_Mo_comes n σ x1).2.1 44).toInt ≤ 16440)) :
    ∃ σ', F_Mo_comes n σ x1 = (1, σ') ∧ σ'.1 47 = σ.1 47 + 1 ∧ ((σ'.1 46 = 1 ∧ (GoA cs lim dE A r1 r2 NF X G k4 mk ut) M σ' al (tk + 1) Φ) ∨ (σ'.1 46 ≠ 1 ∧ (EnA cs lim dE A r1 r2 NF G k4 ut) M σ' (tk + 1) Φ)) := by
  replace hb := fun (_ : Unit) => hb
  replace kF := fun (_ : Unit) => kF
  have h1Φ : 1 ≤ Φ := by omega
  replace hΦ := fun (_ : Unit) => hΦ
  obtain ⟨F', rfl, ef, erf⟩ := rf_top tp hmk (node_ne q2)
  obtain ⟨hh, rfl⟩ : ∃ z, h = z + 1 := ⟨h - 1, by omega⟩
  rw [Nat.add_sub_cancel] at a1 a6
  have hF := tp.hF
  have ltk : tk < al := by
    rcases Nat.lt_or_ge tk al with z | z
    · exact z
    · exact absurd (Int32.toInt_inj.mp (by rw [hx]; show ((al - tk : Nat) : Int) = 0; omega)) hx0
  have le := rn.le
  have wy := (cal_way (n := n) (x1 := x1) c.ar (F := F') (by have := tp.f44; omega) (by omega) (by rw [ef]; exact q2) q3.1.1 hx0).2.2 ⟨kd, by rw [ef]; exact ks, by rw [ef]; exact hv⟩
  rw [ef] at wy
  rw [wy] at hb
  have f3 := hX.fo.ge _ _ _ a2
  rcases a1 with ⟨z0, -⟩ | ⟨-, z1, -⟩ | ⟨-, z1, z2, z3, z4⟩
  · omega
  · omega
  have sn := c.sn
  have th := c.th
  have hvt := c.vt
  have huf := c.uf
  have hfl := rn.fl
  have dpp := c.dp
  have kn := c.kn (-1 - f.val.toInt).toNat z2
  have ix := neg32 (v := f.val) z1 (by omega)
  generalize (-1 - f.val).toInt32 = xi at ix wy hb
  generalize hkk : (-1 - f.val.toInt).toNat = k at *
  clear hkk z1 hv
  have hfl' : (σ.1 47).toInt + 1 + ((al - (tk + 1) : Nat) : Int) + 1001 ≤ NF := by omega
  have le' : tk + 1 ≤ al ∧ al ≤ 200 := ⟨ltk, le.2⟩
  have al5 : al < 5000 ∧ tk < 5000 := by omega
  clear hfl hx
  obtain ⟨ak, uk, ⟨b1, b2, b3, b4, b5⟩, b6, b7, b8⟩ := kn
  replace b8 := fun (_ : Unit) => b8
  clear b6 b7
  have e47 := fu1 c rn
  generalize hσf : mo_si σ 47 (σ.1 47 + 1) = σf at wy hb
  have gf : ∀ k, k ≠ 47 → σf.1 k = σ.1 k := fun k hk => by rw [← hσf]; simp [si_1, si_2, sl_1, sl_2, sl_3, ai_1, ai_2, ai_3, ai_4, al_1, al_2, al_3, al_4, cp_1, cp_2, cp_3, cp_4, hk]
  have gf47 : σf.1 47 = σ.1 47 + 1 := by rw [← hσf]; simp [si_1, si_2, sl_1, sl_2, sl_3, ai_1, ai_2, ai_3, ai_4, al_1, al_2, al_3, al_4, cp_1, cp_2, cp_3, cp_4]
  have gf2 : σf.2 = σ.2 := by rw [← hσf]; rfl
  have frf : frm σf = frm σ := frm_of (fun k _ => by rw [gf2]) (fun k _ => by rw [gf2])
  have krf : kfr σf = kfr σ := kfr_of (fun k _ => by rw [gf2]) (fun k _ => by rw [gf2])
  obtain ⟨rc1, rc2, rc3⟩ := r_goon (σ := σf) (F := F') (n := n) (k := k) (f := fk) (m := mk') (x := xi) (by rw [gf 44 (by omega)]; have := tp.f44; omega) (fun z => by rw [gf 49 (by omega), gf2] at z; have := kF () z; omega) (by omega) ix (by omega) (by rw [gf2]; exact k57) (by rw [gf2]; exact k58) kfm hn
  rw [gf2] at rc1 rc2 rc3
  have e49 := gf 49 (by omega)
  rw [e49] at rc2 rc3
  replace rc1 := fun (_ : Unit) => rc1
  replace rc2 := fun (_ : Unit) => rc2
  replace rc3 := fun (_ : Unit) => rc3
  have ha := c.fsa tp.ow1
  have nma := c.vs.neFM ha
  have nsa := c.vs.neFS ha
  have nms := c.vs.neMS
  obtain ⟨w0, v0, f0', o0, ew⟩ := c.vs.work ha fs (by omega) (op_of (y := 12) a5 rfl)
  have sM := o0.same (Ne.symm nma)
  have sS := o0.same (Ne.symm nsa)
  have hTi := c.tv (z := ta (μ.2 k)) ⟨_, b1, rfl⟩
  have nta : ta (μ.2 k) ≠ a := fun q => c.vs.neFT ha hTi q.symm
  have ntm := c.vs.neTM hTi
  have nts := c.vs.neTS hTi
  obtain ⟨M3, w3, v3, f3', qa3, m12, m6, mI, mQ, sm3, tT, -, e1⟩ := v0.fApply (al := al) (tk := tk) (v := v) (i := μ.2 k) (r := r) ha f0' (by omega) (by omega) (by rw [sM.2.1]; exact rn.al) (by rw [sM.2.1]; exact rn.tk) al5 ltk (by rw [sS.2.1]; exact c.sv) c.v1.1 z4 b1
  have e1 := e1 (by rw [(o0.same nta).2.1, b2]; decide)
  have stp : CStp cs dE A M (F_Ma_apply cs dE (nxR M a r) A.ma (some a) (nI r)) := c.stp rn tp.top ha fs (fun n _ => (ew n).2.2.2.2.2.2.2.2.2.2.1 rfl)
  have M0 : ∀ k, k ≠ 12 → k ≠ 6 → w3.2.1 A.ma k = w.2.1 A.ma k := fun k z1 z2 => by rw [mI k (by simp [si_1, si_2, sl_1, sl_2, sl_3, ai_1, ai_2, ai_3, ai_4, al_1, al_2, al_3, al_4, cp_1, cp_2, cp_3, cp_4, z1, z2]), sM.2.1]
  have n6 : w3.2.1 A.ma 6 = σ.1 47 + 1 := by rw [m6, sM.2.1, c.fu]
  have hDn : σ.1 49 = nI (σ.1 49).toInt.toNat := nI_ofT (by omega) (by omega)
  have e8 : w3.2.1 A.ma 8 = nI (σ.1 49).toInt.toNat := by rw [M0 8 (by decide) (by decide), dpp.1]; exact hDn
  have q4 : ∀ z, z ≠ a → z ≠ A.ma → Same w w3 z := fun z z1 z2 => (o0.same z1).trans (sm3 z z1 z2)
  have sT := q4 _ nta ntm
  have i3 : cI M3 (ta (μ.2 k)) 3 = σ.2.2.1 60 k := by rw [v3.I (Or.inr (Or.inl tT)), sT.2.1]; exact b3
  have i6 : cI M3 (ta (μ.2 k)) 6 = σ.2.2.1 59 k := by rw [v3.I (Or.inr (Or.inl tT)), sT.2.1]; exact b4
  refine ⟨_, wy, ?h47, ?_⟩
  case h47 =>
    by_cases q : σ.2.2.1 60 k = 0
    · by_cases q2 : σ.1 49 + σ.2.2.1 59 k ≤ 400
      · rw [(rc3 () q q2).fk 47 (by omega) (by omega) (by omega)]
        exact gf47
      · rw [rc2 () q q2, si_1, if_neg (by omega)]
        exact gf47
    · rw [rc1 () q, si_1, if_neg (by omega)]
      exact gf47
  rw [e1] at stp
  by_cases h60 : σ.2.2.1 60 k = 0
  rotate_left
  · right
    rw [rc1 () h60]
    have hne : ¬ σ.2.2.1 60 k = 0 := h60
    have er : F_Ma_resume cs M3 A.ma (some a) (some (ta (μ.2 k))) (s (hh + 1)) = cP 8 M3 A.ma 4 (.int 3) := by
      unfold F_Ma_resume
      simp only [Option.getD_some, i3, if_neg hne]
    rw [er] at stp
    exact ⟨by simp [si_1, si_2, sl_1, sl_2, sl_3, ai_1, ai_2, ai_3, ai_4, al_1, al_2, al_3, al_4, cp_1, cp_2, cp_3, cp_4], 1, _, CSts.one stp, fin_at v3 (by decide) (by rw [n6, gf47]) (by rw [M0 7 (by decide) (by decide), gf 48 (by omega)]; exact th.1) (by rw [M0 8 (by decide) (by decide), gf 49 (by omega)]; exact dpp.1) (by rw [M0 9 (by decide) (by decide)]; exact c.un) m12 (by rw [M0 5 (by decide) (by decide)]; exact c.va), h1Φ⟩
  obtain ⟨Lk, lk1, lk2, lk3, lk4, lk5, lk6, lk7, lk8⟩ := b8 () h60
  clear b8
  have e59 : σ.2.2.1 59 k = nI Lk.length := nI_ofT lk6 (by omega)
  have i59 : (σ.1 49 + σ.2.2.1 59 k).toInt = (σ.1 49).toInt + Lk.length := by
    have h1 : (σ.2.2.1 59 k).toInt = (Lk.length : Nat) := lk6
    have h2 := dpp.2
    clear rc1 rc2 rc3 e1 stp ew a6 bn tp c rn fs vr sm3 v3 v0 lk8 lk2
    ((try (simp only [vp_in, Int32.toNatClampNeg, Int32.lt_iff_toInt_lt, Int32.le_iff_toInt_le, ← Int32.toInt_inj, Int32.toInt_add, Int32.toInt_sub, Int32.toInt_mul, Int32.reduceToInt, i32_neg1, Nat.reducePow, Int.reducePow, ne_eq, ge_iff_le, gt_iff_lt] at *)) <;> (first | omega | ((simp (disch := omega) only [bm32] at *) <;> omega)))
  have e400 : (400 : Int32).toInt = 400 := rfl
  by_cases h400 : σ.1 49 + σ.2.2.1 59 k ≤ 400
  rotate_left
  · right
    rw [rc2 () h60 h400]
    have hgt : 400 < (σ.1 49).toInt.toNat + Lk.length := by
      rcases Nat.lt_or_ge 400 ((σ.1 49).toInt.toNat + Lk.length) with z | z
      · exact z
      · exact absurd (Int32.le_iff_toInt_le.mpr (by rw [i59, e400]; omega)) h400
    obtain ⟨ed, -⟩ := (v3.fDeep (m := Lk.length) (x := nI Lk.length) e8 rfl (by omega)).1 hgt
    have ne0 : ¬ (1 : Int32) = 0 := by decide
    have er : F_Ma_resume cs M3 A.ma (some a) (some (ta (μ.2 k))) (s (hh + 1)) = cP 8 M3 A.ma 4 (.int 6) := by
      unfold F_Ma_resume
      simp only [Option.getD_some, i3, h60, if_true, mbind_eq, i6, e59, ed, if_neg ne0]
    rw [er] at stp
    exact ⟨by simp [si_1, si_2, sl_1, sl_2, sl_3, ai_1, ai_2, ai_3, ai_4, al_1, al_2, al_3, al_4, cp_1, cp_2, cp_3, cp_4], 1, _, CSts.one stp, fin_at v3 (by decide) (by rw [n6, gf47]) (by rw [M0 7 (by decide) (by decide), gf 48 (by omega)]; exact th.1) (by rw [M0 8 (by decide) (by decide), gf 49 (by omega)]; exact dpp.1) (by rw [M0 9 (by decide) (by decide)]; exact c.un) m12 (by rw [M0 5 (by decide) (by decide)]; exact c.va), h1Φ⟩
  left
  have hle := Int32.le_iff_toInt_le.mp h400
  rw [i59, e400] at hle
  have ro := rc3 () h60 h400
  generalize F_Mo_goOn n σf xi = σ' at ro hb ⊢
  have e46 : σ'.1 46 = 1 := by rw [ro.fk 46 (by omega) (by omega) (by omega), gf 46 (by omega)]; exact rn.en
  have hb' : (σ'.1 44).toInt ≤ 16440 := hb () e46
  clear hb
  -- the frames that come back
  cases Lk with
  | nil => exact absurd rfl lk1
  | cons ah Lh =>
  obtain ⟨s2, h2, rk, Fs2, b2', rest2, u2, W2, g1, g2, g3, g5, g6⟩ := lk8
  have hk57 : (σ.2.2.1 57 k).toInt.toNat = fk := by omega
  have hk58 : (σ.2.2.1 58 k).toInt.toNat = mk' := by omega
  rw [hk57, hk58] at g2
  have bd2 := g3.bd
  obtain ⟨lo, hlo⟩ : ∃ lo, (ah :: Lh).getLast? = some lo := by
    cases hq : (ah :: Lh).getLast? with
    | none => rw [List.getLast?_eq_none_iff] at hq; cases hq
    | some z => exact ⟨z, rfl⟩
  have olo : own lo = 3 + k := lk5 lo (List.mem_of_getLast? hlo)
  have oa2 : own ah = 3 + k := lk5 ah (by simp [si_1, si_2, sl_1, sl_2, sl_3, ai_1, ai_2, ai_3, ai_4, al_1, al_2, al_3, al_4, cp_1, cp_2, cp_3, cp_4])
  have oa : own a = 1 := tp.ow1
  have hup : w.2.2 (ta (μ.2 k)) 4 = some ah := lk2.1
  have na2 : ah ≠ a := fun q => by rw [q, oa] at oa2; omega
  have nlo : lo ≠ a := fun q => by rw [q, oa] at olo; omega
  have hA2 := c.fs (c := ah) (by omega)
  have hLo := c.fs (c := lo) (by omega)
  obtain ⟨w4, v4, x1', ⟨y1, y2, y3, y4⟩, ⟨m8, mI4, mQ4⟩, x5, x6, x7, x8⟩ := v3.fResume (m := (ah :: Lh).length) (up := ah) (lo := lo) (D := (σ.1 49).toInt.toNat) (su := s2) (Hu := h2) (ru := rk) ha tT (by rw [sT.2.1, b3]; exact h60) (by rw [sT.2.1, b4]; exact e59) e8 (by omega) (by rw [sT.2.2]; exact hup) (by rw [sT.2.2, lk3]; exact hlo) (g1.same (q4 ah na2 (c.vs.neFM hA2))) bd2.2.1 bd2.2.2 (s (hh + 1))
  have SM : ∀ z, z ≠ a → z ≠ ah → z ≠ lo → z ≠ ta (μ.2 k) → z ≠ A.ma → Same w w4 z := fun z c1 c2 c3 c4 c5 => (q4 z c1 c5).trans ⟨fun j => x7 z j c2, fun j => x8 z j c2 c4 c5, fun j => x5 z j c5 (fun q => c3 q.1)⟩
  have fSame : ∀ z, own z ≠ 0 → z ≠ a → own z ≠ 3 + k → Same w w4 z := fun z hz c1 c2 => by
    have hz' := c.fs (c := z) hz
    exact SM z c1 (fun q => c2 (by rw [q]; exact oa2)) (fun q => c2 (by rw [q]; exact olo)) (fun q => c.vs.neFT hz' hTi q) (c.vs.neFM hz')
  have tS : ∀ i, i < v → SameT w w4 (ta i) ∧ (i ≠ μ.2 k → Same w w4 (ta i)) := fun i hi => by
    have ti := c.tv (z := ta i) ⟨i, hi, rfl⟩
    have nf1 : ta i ≠ a := fun q => c.vs.neFT ha ti q.symm
    have nf2 : ta i ≠ ah := fun q => c.vs.neFT hA2 ti q.symm
    have nf3 : ta i ≠ lo := fun q => c.vs.neFT hLo ti q.symm
    have hv1 := c.v1.2
    by_cases q : i = μ.2 k
    · refine ⟨?_, fun z => absurd q z⟩
      rw [q]
      exact ⟨fun j => (y4 j).trans (sT.1 j), fun j hj => (y2 j hj).trans (sT.2.1 j), fun j => (y3 j).trans (sT.2.2 j)⟩
    · have : ta i ≠ ta (μ.2 k) := fun z => q (c.vs.ti i (μ.2 k) (by omega) (by omega) z)
      have sm := SM (ta i) nf1 nf2 nf3 this (c.vs.neTM ti)
      exact ⟨sm.T, fun _ => sm⟩
  have tV : ∀ z, FsO ta v z → SameT w w4 z ∧ FsO ta v z := fun z hz => by
    obtain ⟨i, i1, i2⟩ := hz
    exact ⟨by rw [← i2]; exact (tS i i1).1, i, i1, i2⟩
  have M4 : ∀ k, k ≠ 12 → k ≠ 6 → k ≠ 8 → w4.2.1 A.ma k = w.2.1 A.ma k := fun k c1 c2 c3 => by rw [mI4 k (by simp [si_1, si_2, sl_1, sl_2, sl_3, ai_1, ai_2, ai_3, ai_4, al_1, al_2, al_3, al_4, cp_1, cp_2, cp_3, cp_4, c3]), M0 k c1 c2]
  have nst2 : A.st ≠ ah := fun q => c.vs.neFS hA2 q.symm
  have nstl : A.st ≠ lo := fun q => c.vs.neFS hLo q.symm
  have sSt := SM A.st (Ne.symm nsa) nst2 nstl (Ne.symm nts) (Ne.symm nms)
  have al54 : σ'.2.2.1 54 = σ.2.2.1 54 := by rw [ro.a 54 (by omega) (by omega) (by omega), gf2]
  have arr' : Arr X σ' := c.ar.congr (fun j _ _ => by rw [ro.a j (by omega) (by omega) (by omega), gf2])
  have ekk : kfr σ' = kfr σ := (kfr_of (fun j hj => ro.a j (by omega) (by omega) (by omega)) (fun j hj => ro.al j (by omega) (by omega))).trans krf
  have n48 : σ'.1 48 = σ.1 48 := by rw [ro.fk 48 (by omega) (by omega) (by omega), gf 48 (by omega)]
  have n47 : σ'.1 47 = σ.1 47 + 1 := by rw [ro.fk 47 (by omega) (by omega) (by omega), gf47]
  have n49 : σ'.1 49 = σ.1 49 + σ.2.2.1 59 k := by rw [ro.f49, gf 49 (by omega), gf2]
  have llen : (ah :: Lh).length = Lh.length + 1 := rfl
  have sumE : sumW (fun j => if j = k then 0 else Wk j) S.nk + Wk k = sumW Wk S.nk := by
    have := sumW_set (W := Wk) (W' := fun j => if j = k then 0 else Wk j) (k := k) (x := 0) (n := S.nk) z2 (fun i _ hne => if_neg hne) (if_pos rfl)
    omega
  have lfS : ∀ z, z ∈ Lf → w4.2.2 z 4 = w.2.2 z 4 := fun z hz => by
    have o2 := c.lf.2.2 z hz
    exact (fSame z (by omega) (fun q => by rw [q, oa] at o2; omega) (by omega)).2.2 4
  have sc : (SimC cs lim dE A r1 r2 NF X G k4) S μ fa ta nf nt u v (fun z => if own z = 3 + k then 1 else own z) Lf (fun j => if j = k then 0 else Wk j) (F_Ma_resume cs M3 A.ma (some a) (some (ta (μ.2 k))) (s (hh + 1))) w4 σ' := by
    refine ⟨v4, by rw [sSt.2.1]; exact c.su, c.uN, by rw [sSt.2.1]; exact c.sv, c.v1, ⟨by rw [sSt.2.2]; exact c.lf.1.cong lfS, c.lf.2.1, fun z hz => ?_⟩, fun z hz => ?_, ?_, ?_, ?_, ?_, ?_, ?_, ?_, arr', fun i hi => ?_, fun j hj => ?_, c.ki, ?_, ?_, ?_, ?_⟩
    · have o2 := c.lf.2.2 z hz
      show (if own z = 3 + k then 1 else own z) = 2
      rw [if_neg (by omega)]; exact o2
    · have hz : (if own z = 3 + k then 1 else own z) ≠ 0 := hz
      refine c.ou z (fun q => ?_)
      rw [if_neg (by omega)] at hz
      exact hz q
    · rw [M4 7 (by decide) (by decide) (by decide), n48]; exact th
    · rw [m8, n49]
      refine ⟨(nI_ofT (by rw [i59]; omega) (by omega)).symm, by rw [i59]; omega, by rw [i59]; omega⟩
    · rw [mI4 6 (by decide), n6, n47]
    · rw [M4 9 (by decide) (by decide) (by decide)]; exact c.un
    · rw [M4 5 (by decide) (by decide) (by decide)]; exact c.va
    · rw [ro.fk 56 (by omega) (by omega) (by omega), gf 56 (by omega)]; exact c.nf
    · rw [ro.fk 61 (by omega) (by omega) (by omega), gf 61 (by omega)]; exact c.nk
    · rw [al54, ro.al 55 (by omega) (by omega), gf2]
      exact (c.fn i hi).mono hi Sto.le.rfl' MpLe.rfl' (Nat.le_refl _) (fun i hi => ⟨rfl, (tS i hi).1⟩)
    · by_cases q : j = k
      · subst q
        refine ⟨ak, uk, ⟨b1, by rw [(tS _ b1).1.2.1 2 (by decide)]; exact b2, by rw [y1, ro.a60, if_pos rfl], by rw [(tS _ b1).1.2.1 6 (by decide), ro.a 59 (by omega) (by omega) (by omega), gf2]; exact b4, b5⟩, Or.inr (by rw [ro.a60, if_pos rfl]), fun _ => if_pos rfl, fun z => ?_⟩
        rw [ro.a60, if_pos rfl] at z
        exact absurd z (by decide)
      · have kk := c.kn j hj
        have hlt : μ.2 j < v := by obtain ⟨_, _, ⟨z, _⟩, _⟩ := kk; exact z
        have hne : μ.2 j ≠ μ.2 k := fun z => q (c.ki j k hj z2 z)
        refine kk.mono hj Sto.le.rfl' MpLe.rfl' (Nat.le_refl _) (fun i hi => ⟨rfl, (tS i hi).1⟩) (((tS _ hlt).2 hne).2.1 3) (fun z hz => ⟨fSame z (by omega) (fun q => by rw [q, oa] at hz; omega) (by omega), ?_⟩) (by rw [ro.a60, if_neg q, gf2]) (by rw [ro.a 59 (by omega) (by omega) (by omega), gf2]) ?_ (if_neg q)
        · show (if own z = 3 + k then 1 else own z) = 3 + j
          rw [if_neg (by omega)]; exact hz
        · rw [ro.a 57 (by omega) (by omega) (by omega), ro.a 58 (by omega) (by omega) (by omega), gf2]
          exact kfs_c (fun i _ _ => by rw [ekk])
    · rw [n48]
      have := c.hw
      omega
    · rw [n48]; exact hvt
    · rw [n48]; exact sn
    · rw [n48, n47, e47]; omega
  have lS : ∀ z, z ∈ L → Same w w4 z := fun z hz => by
    have hzo : own z = 1 := tp.ow z (by simp [si_1, si_2, sl_1, sl_2, sl_3, ai_1, ai_2, ai_3, ai_4, al_1, al_2, al_3, al_4, cp_1, cp_2, cp_3, cp_4, hz])
    exact fSame z (by omega) (fun q => (List.nodup_cons.mp tp.nd).1 (by rw [← q]; exact hz)) (by omega)
  have nd2 := List.nodup_cons.mp lk4
  -- the frames that come back but the upper one: all but the lowest's link is the same
  have kS : ∀ z, z ∈ ah :: Lh → z ≠ ah → (∀ j, w4.1 z j = w.1 z j) ∧ (∀ j, w4.2.1 z j = w.2.1 z j) ∧ (∀ j, j ≠ 4 → w4.2.2 z j = w.2.2 z j) := fun z hz hne => by
    have hzo := lk5 z hz
    have hz' := c.fs (c := z) (by omega)
    have za : z ≠ a := fun q => by rw [q, oa] at hzo; omega
    have zm := c.vs.neFM hz'
    have zt : z ≠ ta (μ.2 k) := fun q => c.vs.neFT hz' hTi q
    have s0 := q4 z za zm
    exact ⟨fun j => (x7 z j hne).trans (s0.1 j), fun j => (x8 z j hne zt zm).trans (s0.2.1 j), fun j hj => (x5 z j zm (fun q => hj q.2)).trans (s0.2.2 j)⟩
  have kL : ∀ z, z ∈ ah :: Lh → z ≠ lo → w4.2.2 z 4 = w.2.2 z 4 := fun z hz hne => by
    have hzo := lk5 z hz
    have hz' := c.fs (c := z) (by omega)
    have za : z ≠ a := fun q => by rw [q, oa] at hzo; omega
    exact (x5 z 4 (c.vs.neFM hz') (fun q => hne q.1)).trans ((q4 z za (c.vs.neFM hz')).2.2 4)
  have aS : FSt w4 a s hh (r + 1) := ⟨fun j => (x7 a j (Ne.symm na2)).trans (f3'.1 j), (x8 a 1 (Ne.symm na2) (Ne.symm nta) nma).trans f3'.2.1, (x8 a 2 (Ne.symm na2) (Ne.symm nta) nma).trans f3'.2.2⟩
  have qa4 : ∀ j, w4.2.2 a j = w.2.2 a j := fun j => by rw [x5 a j nma (fun q => nlo q.1.symm), qa3, o0.2.2]
  obtain ⟨a9, r9, hf9, ha9, hr9⟩ := z3.fn hX.fo a2
  obtain ⟨ea, er⟩ := hX.fo.un _ _ _ _ _ hf9 b5
  subst ea er
  have ba : Bs X G S μ w4 (FsO ta v) (a :: L) (F2 ++ b :: rest) rr ut (W1 + 1701 - (r + 1)) := ⟨s, hh, r + 1, F2, b, rest, u1, W1, aS, rfl, ⟨d, u0, e, a6, bn.mono Sto.le.rfl' MpLe.rfl' (qa4 3) tV⟩, tp.bs.mono Sto.le.rfl' MpLe.rfl' lS tV, by omega⟩
  have bl : Bs X G S μ w4 (FsO ta v) Lh rest2 u2 r9 W2 := g5.monoF Sto.le.rfl' MpLe.rfl' (fun z hz => by
    have := kS z (by simp [si_1, si_2, sl_1, sl_2, sl_3, ai_1, ai_2, ai_3, ai_4, al_1, al_2, al_3, al_4, cp_1, cp_2, cp_3, cp_4, hz]) (fun q => nd2.1 (by rw [← q]; exact hz))
    exact ⟨this.1, this.2.1, this.2.2 3 (by decide)⟩) tV
  have bnew := bl.app hX (ba.sub hX hr9)
  have hA2m := c.vs.neFM hA2
  have q3h : w4.2.2 ah 3 = w.2.2 ah 3 := (x5 ah 3 hA2m (fun q => by have := q.2; omega)).trans ((q4 ah na2 hA2m).2.2 3)
  have lnk2 : Lnk w (some ah) (ah :: Lh) := by rw [← hup]; exact lk2
  have lnka : Lnk w4 (some a) (a :: L) := ⟨rfl, by rw [qa4]; exact tp.lnk.2.cong (fun z hz => (lS z hz).2.2 4)⟩
  have hF2 := ro.f44
  refine ⟨e46, 1, _, W2 + (W1 + 1701 - (r + 1)) + 1701 - rk + sumW (fun j => if j = k then 0 else Wk j) S.nk + (1000 - (σ'.1 48).toInt.toNat) * 1701 + (al - (tk + 1)) * 1701, CSts.one stp, ⟨S, μ, fa, ta, nf, nt, u, v, _, Lf, _, w4, W2 + (W1 + 1701 - (r + 1)) + 1701 - rk, sc, ⟨by rw [M4 4 (by decide) (by decide) (by decide)]; exact rn.st, by rw [M4 13 (by decide) (by decide) (by decide)]; exact rn.wt, by rw [M4 11 (by decide) (by decide) (by decide)]; exact rn.al, by rw [mI4 12 (by decide)]; exact m12, le', e46, by rw [n47, e47]; exact hfl'⟩, ⟨F' + mk', ah, Lh ++ (a :: L), upd s2 h2 (s (hh + 1)), h2, rk, Fs2, b2', rest2 ++ (F2 ++ b :: rest), a9, u2, W2 + (W1 + 1701 - (r + 1)), ⟨by omega, by omega, ?_, ?_, fun z hz => ?_, ?_, ?_, bnew⟩, by omega, Or.inr ⟨ro.f51, x1', ?_, (g3.cong (fun j hj => by rw [upd_n (by omega)])).mono Sto.le.rfl' MpLe.rfl' q3h tV⟩⟩, rfl⟩, ?_⟩
  · rw [mQ4]
    exact lnk2.app (L1 := ah :: Lh) (L2 := a :: L) hlo (fun z hz hne => kL z hz hne) lk4 x6 lnka
  · refine nd_app (L1 := ah :: Lh) (L2 := a :: L) lk4 tp.nd (fun z h1 h2 => ?_)
    have q1 := lk5 z h1
    have q2 := tp.ow z h2
    omega
  · show (if own z = 3 + k then 1 else own z) = 1
    by_cases q : own z = 3 + k
    · rw [if_pos q]
    · rw [if_neg q]
      rcases List.mem_append.mp (show z ∈ (ah :: Lh) ++ (a :: L) from hz) with q1 | q1
      · exact absurd (lk5 z q1) q
      · exact tp.ow z q1
  · rw [n49, i59]
    have tl := tp.len
    have ll : (Lh ++ a :: L).length = Lh.length + (L.length + 1) := by rw [List.length_append]; rfl
    rw [ll]
    omega
  · rw [ro.rf]
    have e1 : kfs σf fk mk' = kfs σ fk mk' := kfs_c (fun i _ _ => by rw [krf])
    have e2 : rfs σf F' = rfs σ F' := rfs_c (fun i _ => by rw [frf])
    rw [e1, e2, g2, List.append_assoc, erf]
    simp [si_1, si_2, sl_1, sl_2, sl_3, ai_1, ai_2, ai_3, ai_4, al_1, al_2, al_3, al_4, cp_1, cp_2, cp_3, cp_4]
  · rw [upd_s, ro.vl, gf2]
    exact (vr.sub hX.fo a3).sub hX.fo ha9
  · rw [n48, hΦ ()]
    exact phi_res hW bd.1 g6 bd2.1 sumE
end
end
