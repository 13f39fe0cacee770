-- pure rows: IE
section
/-! pure rows: a frame is entered; a handler is set up -/
section
variable {cs : Nat → ClassId} {lim dE : Nat × Nat} {A : Ad} {r1 r2 NF : Nat} {X : Cx} {G : Nat → Int32} {k4 : Nat} {S S' : Sto} {μ μ' : Mp} {fa fa' ta ta' : Nat → Nat} {nf nf' nt nt' u v : Nat} {own : Nat → Nat} {Lf : List Nat} {Wk : Nat → Nat} {M M' : gMem} {w w' : Vw} {σ σ' : mSt} {al tk a h r n nd d cc m W Φ l r' T D f' : Nat} {s : Nat → Int32} {mk : Fr} {ut F : Nat} {L : List Nat} {Fs : List Fr} {b : Fr} {rest : List Fr} {t u0 u1 W1 : Nat} {e : Nat} {x1 : Int32} {g : Nat → Int}
theorem SimC.usd (c : (SimC cs lim dE A r1 r2 NF X G k4) S μ fa ta nf nt u v own Lf Wk M w σ) (ho : own a ≠ 0) (ho2 : own a ≠ 2) : Usd A fa u w a := by
  refine ⟨c.ou a ho, fun q => ?_⟩
  have lk := c.lf.1
  rw [q] at lk
  cases Lf with
  | nil => cases lk
  | cons z Lf =>
    have : a = z := by have := lk.1; cases this; rfl
    exact ho2 (c.lf.2.2 a (by rw [this]; simp [si_1, si_2, sl_1, sl_2, sl_3, ai_1, ai_2, ai_3, ai_4, al_1, al_2, al_3, al_4, cp_1, cp_2, cp_3, cp_4]))
/-- where the new frame came from, and what is free now -/
theorem SimC.enterF (c : (SimC cs lim dE A r1 r2 NF X G k4) S μ fa ta nf nt u v own Lf Wk M w σ) (vs' : (VS cs lim dE A r1 r2 NF G k4) fa' ta' nf' nt' M' w') (hnf : nf ≤ nf' ∧ ∀ i, i < nf → fa' i = fa i) (sf : StF A fa' nf' u w w' f') (fr : ∀ z, own z = 2 → z ≠ f' → w'.2.2 z 4 = w.2.2 z 4) :
    ∃ u' Lf', w'.2.1 A.st 2 = nI u' ∧ u ≤ u' ∧ u' ≤ u + 1 ∧ (Lnk w' (w'.2.2 A.st 4) Lf' ∧ Lf'.Nodup ∧ ∀ z, z ∈ Lf' → own z = 2 ∧ z ≠ f') ∧ (∀ z, own z ≠ 0 ∨ z = f' → ∃ i, i < u' ∧ fa' i = z) ∧ (own f' = 0 ∨ own f' = 2) := by
  have hu := c.vs.used c.su c.uN
  have old : ∀ z, own z ≠ 0 → ∃ i, i < u ∧ fa' i = z := fun z hz => by
    obtain ⟨i, i1, i2⟩ := c.ou z hz
    exact ⟨i, i1, by rw [hnf.2 i (by omega)]; exact i2⟩
  have lk := c.lf.1
  rcases sf with ⟨z1, z2, z3⟩ | ⟨z1, ⟨z2, z3⟩, z4, z5⟩
  · rw [z1] at lk
    cases Lf with
    | nil => cases lk
    | cons z Lf =>
      have ez : f' = z := by have := lk.1; cases this; rfl
      subst ez
      have o2 : own f' = 2 := c.lf.2.2 f' (by simp [si_1, si_2, sl_1, sl_2, sl_3, ai_1, ai_2, ai_3, ai_4, al_1, al_2, al_3, al_4, cp_1, cp_2, cp_3, cp_4])
      have nd := List.nodup_cons.mp c.lf.2.1
      have ne : ∀ y, y ∈ Lf → own y = 2 ∧ y ≠ f' := fun y hy => ⟨c.lf.2.2 y (by simp [si_1, si_2, sl_1, sl_2, sl_3, ai_1, ai_2, ai_3, ai_4, al_1, al_2, al_3, al_4, cp_1, cp_2, cp_3, cp_4, hy]), fun q => nd.1 (by rw [← q]; exact hy)⟩
      refine ⟨u, Lf, by rw [z3]; exact c.su, Nat.le_refl _, by omega, ⟨?_, nd.2, ne⟩, fun y hy => ?_, Or.inr o2⟩
      · rw [z2]
        exact lk.2.cong (fun y hy => fr y (ne y hy).1 (ne y hy).2)
      · rcases hy with hy | hy
        · exact old y hy
        · rw [hy]; exact old f' (by rw [o2]; decide)
  · rw [z1] at lk
    cases Lf with
    | cons z Lf => have := lk.1; cases this
    | nil =>
      refine ⟨u + 1, [], z5, by omega, Nat.le_refl _, ⟨z4, List.nodup_nil, fun y hy => by cases hy⟩, fun y hy => ?_, ?_⟩
      · rcases hy with hy | hy
        · obtain ⟨i, i1, i2⟩ := old y hy
          exact ⟨i, by omega, i2⟩
        · exact ⟨u, by omega, by rw [hy]; exact z2⟩
      · by_cases q : own f' = 0
        · exact Or.inl q
        · exfalso
          obtain ⟨i, i1, i2⟩ := old f' q
          have := vs'.fi i u (by omega) z3 (by rw [i2, z2])
          omega
theorem now_han (hX : X.Ok) (c : (SimC cs lim dE A r1 r2 NF X G k4) S μ fa ta nf nt u v own Lf Wk M w σ) (rn : Rn A NF w σ al tk) (tp : Tp X G S μ w (FsO ta v) A own σ mk ut F a L Fs b rest u1 W1) (f45 : (σ.1 45).toInt = nd) (gd : Gd X nd) (kd : (X.A 5 nd).toInt = 8) (fs : FSt w a s h r) (cd : Cd X.A G cc nd r r') (ty : Ty X.A X.P X.tk X.gv g nd t) (sr : SR X.P S μ g s (nsee σ)) (bk : Bk X G S μ w (FsO ta v) a r' s h Fs b t u1) (hW : W + r = W1 + 1701) (hΦ : Φ = W + sumW Wk S.nk + (1000 - (σ.1 48).toInt.toNat) * 1701 + (al - tk) * 1701) (hn : 12 ≤ n) (hb : (F_Mo_workNode n σ).1 46 = 1 → F + 1 ≤ 16440) : ((F_Mo_workNode n σ).1 46 = 1 ∧ (GoA cs lim dE A r1 r2 NF X G k4 mk ut) M (F_Mo_workNode n σ) al tk Φ) ∨ ((F_Mo_workNode n σ).1 46 ≠ 1 ∧ (EnA cs lim dE A r1 r2 NF G k4 ut) M (F_Mo_workNode n σ) tk Φ) := by
  have bd := bk.bd
  have lt := cd.lt
  have cd0 := cd
  obtain ⟨c0, m, m', b1, b2, b3, b4, b5, b6, b7, b8, b9, b10, b11⟩ := cd.j8 kd
  obtain ⟨t0, ks, us, y1, y2, y3⟩ := ty.i8 kd
  have e8 := gd.eight kd
  have cf := hX.cf nd gd.1.1 kd
  have hpa := hX.pa nd gd.1.1 (by omega)
  have gp := gd.part hX (parts_a (n := nd) (by omega) (by omega))
  obtain ⟨-, -, -, -, -, -, w8⟩ := wn_way (n := n) c.ar f45 gd.1.1
  have e15 : X.A 15 nd = nI (X.A 15 nd).toInt.toNat := nI_ofT (by omega) (by omega)
  have th := c.th
  have dpp := c.dp
  have hTn : σ.1 48 = nI (σ.1 48).toInt.toNat := nI_ofT (by omega) (by omega)
  have hDn : σ.1 49 = nI (σ.1 49).toInt.toNat := nI_ofT (by omega) (by omega)
  have ha := c.fsa tp.ow1
  have nma := c.vs.neFM ha
  have nsa := c.vs.neFS ha
  have l4 := b4.lt
  have l7 := b7.lt
  rw [w8 kd] at hb ⊢
  by_cases h1000 : σ.1 48 = 1000
  · right
    rw [if_pos h1000]
    exact ⟨by simp [si_1, si_2, sl_1, sl_2, sl_3, ai_1, ai_2, ai_3, ai_4, al_1, al_2, al_3, al_4, cp_1, cp_2, cp_3, cp_4], now_full c rn tp fs (by omega) (Or.inr b1) h1000 (by omega)⟩
  rw [if_neg h1000] at hb ⊢
  have hT1 : (σ.1 48).toInt.toNat < 1000 := by
    rcases Nat.lt_or_ge (σ.1 48).toInt.toNat 1000 with z | z
    · exact z
    · exact absurd (Int32.toInt_inj.mp (by show (σ.1 48).toInt = 1000; omega)) h1000
  obtain ⟨w0, v0, f0, o0, ew⟩ := c.vs.work ha fs (by omega) (op_of (y := 9) b1 rfl)
  have sM := o0.same (Ne.symm nma)
  have sS := o0.same (Ne.symm nsa)
  by_cases h400 : σ.1 49 = 400
  · right
    rw [if_pos h400]
    obtain ⟨e1, -⟩ := (v0.fDeep (D := 400) (m := 1) (x := 1) (by rw [sM.2.1, dpp.1, h400]; rfl) rfl (by omega)).1 (by omega)
    have e0 := (v0.fFull (T := (σ.1 48).toInt.toNat) (m := 1) (x := 1) (by rw [sM.2.1, th.1]; exact hTn) rfl (by omega)).2 (by omega)
    refine ⟨by simp [si_1, si_2, sl_1, sl_2, sl_3, ai_1, ai_2, ai_3, ai_4, al_1, al_2, al_3, al_4, cp_1, cp_2, cp_3, cp_4], deep_end c rn v0 sM (CSts.one (c.stp rn tp.top ha fs (fun n _ => ?_))) (by omega)⟩
    rw [(ew n).2.2.2.2.2.2.2.2.1 rfl]
    unfold F_Ma_install
    have ne0 : ¬ (1 : Int32) = 0 := by decide
    simp only [mbind_eq, e0, if_true, e1, if_neg ne0]
  rw [if_neg h400] at hb ⊢
  left
  have hD1 : (σ.1 49).toInt.toNat < 400 := by
    rcases Nat.lt_or_ge (σ.1 49).toInt.toNat 400 with z | z
    · exact z
    · exact absurd (Int32.toInt_inj.mp (by show (σ.1 49).toInt = 400; omega)) h400
  have i48 : (σ.1 48 + 1).toInt = (σ.1 48).toInt + 1 := by clear hb ew cd cd0 b4 b7 b11 ty y1 y2 y3 sr bk c rn tp; ((try (simp only [vp_in, Int32.toNatClampNeg, Int32.lt_iff_toInt_lt, Int32.le_iff_toInt_le, ← Int32.toInt_inj, Int32.toInt_add, Int32.toInt_sub, Int32.toInt_mul, Int32.reduceToInt, i32_neg1, Nat.reducePow, Int.reducePow, ne_eq, ge_iff_le, gt_iff_lt] at *)) <;> (first | omega | ((simp (disch := omega) only [bm32] at *) <;> omega)))
  have i49 : (σ.1 49 + 1).toInt = (σ.1 49).toInt + 1 := by clear hb ew cd cd0 b4 b7 b11 ty y1 y2 y3 sr bk c rn tp; ((try (simp only [vp_in, Int32.toNatClampNeg, Int32.lt_iff_toInt_lt, Int32.le_iff_toInt_le, ← Int32.toInt_inj, Int32.toInt_add, Int32.toInt_sub, Int32.toInt_mul, Int32.reduceToInt, i32_neg1, Nat.reducePow, Int.reducePow, ne_eq, ge_iff_le, gt_iff_lt] at *)) <;> (first | omega | ((simp (disch := omega) only [bm32] at *) <;> omega)))
  have hF := tp.hF
  obtain ⟨rw', hp, e48, e49⟩ := Rw.push (X := X) (σ := mo_si (mo_si σ 48 (σ.1 48 + 1)) 49 (σ.1 49 + 1)) (σ0 := σ) (F := F) (n := n) (nd := nd) (x := σ.1 45) (by omega) (by simp [si_1, si_2, sl_1, sl_2, sl_3, ai_1, ai_2, ai_3, ai_4, al_1, al_2, al_3, al_4, cp_1, cp_2, cp_3, cp_4]; exact tp.f44) hn (fun k z1 z2 => by simp [si_1, si_2, sl_1, sl_2, sl_3, ai_1, ai_2, ai_3, ai_4, al_1, al_2, al_3, al_4, cp_1, cp_2, cp_3, cp_4, z1, z2]) rfl gd.1.1 c.ar
  simp [si_1, si_2, sl_1, sl_2, sl_3, ai_1, ai_2, ai_3, ai_4, al_1, al_2, al_3, al_4, cp_1, cp_2, cp_3, cp_4] at e48 e49
  generalize F_Mo_work (F_Mo_push n (mo_si (mo_si σ 48 (σ.1 48 + 1)) 49 (σ.1 49 + 1)) (σ.1 45)) ((F_Mo_push n (mo_si (mo_si σ 48 (σ.1 48 + 1)) 49 (σ.1 49 + 1)) (σ.1 45)).2.2.1 9 nd) = σ' at rw' hp e48 e49 hb ⊢
  have hb' := hb (by rw [rw'.f46]; exact rn.en)
  have hvt := c.vt
  have huf := c.uf
  have hfl := rn.fl
  have uN : u < NF := by omega
  obtain ⟨f', fa', nf', ta', nt', w1, v1, ⟨p1, p2, p3, p4⟩, ⟨q1, q2, q3⟩, ⟨fa1, qa⟩, ⟨n1, n2, n3, n4, n5⟩, ⟨t1, t2, t3⟩, ⟨m7, m8, mI, mQ⟩, s3, sf, sm⟩ := v0.fInstall (l := r') (m := (X.A 15 nd).toInt.toNat) (T := (σ.1 48).toInt.toNat) (D := (σ.1 49).toInt.toNat) (u := u) (v := v) ha f0 (by
      have := c.usd (a := a) (by rw [tp.ow1]; decide) (by rw [tp.ow1]; decide)
      exact ⟨this.1, by rw [o0.2.2]; exact this.2⟩) (by rw [sM.2.1, th.1]; exact hTn) hT1 (by rw [sM.2.1, dpp.1]; exact hDn) hD1 (by rw [sS.2.1]; exact c.sv) (by omega) (by rw [sS.2.1]; exact c.su) uN (by omega) (nI_ofT b10 (by omega)) (b3.trans e15) (by omega)
  have stp : CStp cs dE A M (F_Ma_install cs dE (nxR M a r) A.ma (some a) (nI r)) := c.stp rn tp.top ha fs (fun n _ => (ew n).2.2.2.2.2.2.2.2.1 rfl)
  have p4' : ∀ z, own z ≠ 0 → own z ≠ 2 → z ≠ f' := fun z z1 z2 => by
    have := c.usd (a := z) z1 z2
    exact p4 z ⟨this.1, by rw [o0.2.2]; exact this.2⟩
  have naf : a ≠ f' := p4' a (by rw [tp.ow1]; decide) (by rw [tp.ow1]; decide)
  have hT' : FsO ta' nt' (ta' v) := ⟨v, q3, rfl⟩
  have SM : ∀ z, z ≠ a → z ≠ f' → z ≠ ta' v → z ≠ A.ma → z ≠ A.st → Same w w1 z := fun z z1 z2 z3 z4 z5 => (o0.same z1).trans (sm z z1 z2 z3 z4 z5)
  have hv := c.v1
  have fSame : ∀ z, own z ≠ 0 → z ≠ a → z ≠ f' → Same w w1 z := fun z hz z1 z2 => by
    have hz' := c.fs (c := z) hz
    exact SM z z1 z2 (fun q => v1.neFT (hz'.le p1 p2) hT' q) (c.vs.neFM hz') (c.vs.neFS hz')
  have tS : ∀ i, i < v → ta' i = ta i ∧ Same w w1 (ta i) := fun i hi => by
    have ti := c.tv (z := ta i) ⟨i, hi, rfl⟩
    have e := q2 i (by omega)
    have ti' : FsO ta' nt' (ta i) := ⟨i, by omega, e⟩
    refine ⟨e, SM _ (fun z => c.vs.neFT ha ti z.symm) (fun z => v1.neFT p3 ti' z.symm) (fun z => ?_) (c.vs.neTM ti) (c.vs.neTS ti)⟩
    have := v1.ti i v (by omega) q3 (by rw [e, z])
    omega
  have tV : ∀ z, FsO ta v z → SameT w w1 z ∧ FsO ta' (v + 1) z := fun z hz => by
    obtain ⟨i, i1, i2⟩ := hz
    obtain ⟨e1, e2⟩ := tS i i1
    exact ⟨by rw [← i2]; exact e2.T, i, by omega, by rw [e1]; exact i2⟩
  have sf' : StF A fa' nf' u w w1 f' := by
    have e4 : ∀ z k, w0.2.2 z k = w.2.2 z k := o0.2.2
    have e2 : w0.2.1 A.st 2 = w.2.1 A.st 2 := sS.2.1 2
    unfold StF at sf ⊢
    rw [e4, e4, e2] at sf
    exact sf
  have nfs : f' ≠ A.st := v1.neFS p3
  have nms := c.vs.neMS
  obtain ⟨u', Lf', eu, hu1, hu2, ⟨lk, lnd, low⟩, ou', of'⟩ := c.enterF v1 ⟨p1, p2⟩ sf' (fun z z1 z2 => (fSame z (by rw [z1]; decide) (fun q => by rw [q, tp.ow1] at z1; omega) z2).2.2 4)
  have oa : own a = 1 := tp.ow1
  have ek : kfr σ' = kfr σ := kfr_of (fun k hk => hp.a k (by omega)) (fun k hk => hp.al k (by omega))
  have hNF := c.vs.NFb.1
  have sc : (SimC cs lim dE A r1 r2 NF X G k4) S μ fa' ta' nf' nt' u' (v + 1) (fun z => if z = f' then 1 else own z) Lf' Wk (F_Ma_install cs dE (nxR M a r) A.ma (some a) (nI r)) w1 σ' := by
    refine ⟨v1, eu, by omega, s3, ⟨by omega, by omega⟩, ⟨lk, lnd, fun z hz => ?_⟩, fun z hz => ?_, ⟨?_, by rw [e48, i48]; omega, by rw [e48, i48]; omega⟩, ⟨?_, by rw [e49, i49]; omega, by rw [e49, i49]; omega⟩, ?_, ?_, ?_, by rw [hp.f 56 (by omega)]; exact c.nf, by rw [hp.f 61 (by omega)]; exact c.nk, rw'.arr c.ar, fun f hf => ?_, fun k hk => ?_, c.ki, ?_, by rw [e48, i48]; omega, by rw [e48, i48]; have := c.sn; omega, by rw [e48, i48, rw'.f47]; omega⟩
    · show (if z = f' then 1 else own z) = 2
      rw [if_neg (low z hz).2]; exact (low z hz).1
    · by_cases q : z = f'
      · exact ou' z (Or.inr q)
      · have hz : (if z = f' then 1 else own z) ≠ 0 := hz
        rw [if_neg q] at hz; exact ou' z (Or.inl hz)
    · rw [m7, e48]; exact (nI_ofT (by rw [i48]; omega) (by omega)).symm
    · rw [m8, e49]; exact (nI_ofT (by rw [i49]; omega) (by omega)).symm
    · rw [mI 6 (by decide), sM.2.1, rw'.f47]; exact c.fu
    · rw [mI 9 (by decide), sM.2.1]; exact c.un
    · rw [mI 5 (by decide), sM.2.1]; exact c.va
    · rw [hp.a 54 (by omega), hp.al 55 (by omega)]
      exact (c.fn f hf).mono hf Sto.le.rfl' MpLe.rfl' (by omega) (fun i hi => ⟨(tS i hi).1, (tS i hi).2.T⟩)
    · have kk := c.kn k hk
      have hlt : μ.2 k < v := by obtain ⟨_, _, ⟨z, _⟩, _⟩ := kk; exact z
      refine kk.mono hk Sto.le.rfl' MpLe.rfl' (by omega) (fun i hi => ⟨(tS i hi).1, (tS i hi).2.T⟩) ((tS _ hlt).2.2.1 3) (fun z hz => ?_) (by rw [hp.a 60 (by omega)]) (by rw [hp.a 59 (by omega)]) (kfs_hp hp k) rfl
      have zf : z ≠ f' := p4' z (by omega) (by omega)
      exact ⟨fSame z (by omega) (fun q => by rw [q, oa] at hz; omega) zf, by show (if z = f' then 1 else own z) = 3 + k; rw [if_neg zf]; exact hz⟩
    · rw [e48, i48]; have := c.hw; omega
  have lS : ∀ z, z ∈ L → Same w w1 z := fun z hz => by
    have hzo : own z = 1 := tp.ow z (by simp [si_1, si_2, sl_1, sl_2, sl_3, ai_1, ai_2, ai_3, ai_4, al_1, al_2, al_3, al_4, cp_1, cp_2, cp_3, cp_4, hz])
    exact fSame z (by rw [hzo]; decide) (fun q => (List.nodup_cons.mp tp.nd).1 (by rw [← q]; exact hz)) (p4' z (by rw [hzo]; decide) (by rw [hzo]; decide))
  have qa' : ∀ k, w1.2.2 a k = w.2.2 a k := fun k => by rw [qa, o0.2.2]
  refine ⟨by rw [rw'.f46]; exact rn.en, 1, _, W1 + 1701 - r' + 1701 - (r + 1 + (X.A 15 nd).toInt.toNat) + sumW Wk S.nk + (1000 - (σ'.1 48).toInt.toNat) * 1701 + (al - tk) * 1701, CSts.one stp, ⟨S, μ, fa', ta', nf', nt', u', v + 1, _, Lf', Wk, w1, W1 + 1701 - r' + 1701 - (r + 1 + (X.A 15 nd).toInt.toNat), sc, ⟨by rw [mI 4 (by decide), sM.2.1]; exact rn.st, by rw [mI 13 (by decide), sM.2.1]; exact rn.wt, by rw [mI 11 (by decide), sM.2.1]; exact rn.al, by rw [mI 12 (by decide), sM.2.1]; exact rn.tk, rn.le, by rw [rw'.f46]; exact rn.en, by rw [rw'.f47]; exact rn.fl⟩, ⟨F + 1, f', a :: L, w1.1 f', 10, r + 1 + (X.A 15 nd).toInt.toNat, [], ⟨σ.1 45, 0, 0, nsee σ⟩, Fs ++ b :: rest, t0, t, W1 + 1701 - r', ⟨by have := rw'.f44; omega, hb', ?_, ?_, fun z hz => ?_, ?_, ?_, ⟨s, h, r', Fs, b, rest, u1, W1, fa1, rfl, bk.mono Sto.le.rfl' MpLe.rfl' (qa' 3) tV, tp.bs.mono Sto.le.rfl' MpLe.rfl' lS tV, by omega⟩⟩, by omega, Or.inl ⟨rw'.f51, (X.A 9 nd).toInt.toNat, m, c0, g, ?_, gp.1, ?_, by omega, ⟨fun _ => rfl, n2, n3⟩, b4, y1, ?_, 1, t0, m, ⟨⟨by omega, by omega, by omega⟩, Or.inl ⟨rfl, rfl, rfl, .rfl'⟩⟩, Or.inr ⟨nd, ta' v, r, r', cc, g, t0, t, ks, us, f45, gd, kd, ⟨b5, nI_ofT b6 (by omega)⟩, n4, ⟨v, by omega, rfl⟩, t1, cd0, bd.1, sr.congr t3 (fun _ _ => rfl), .rfl', y2, y3, .rfl'⟩⟩⟩, rfl⟩, ?_⟩
  · rw [mQ]
    refine ⟨rfl, ?_⟩
    rw [n5]
    refine ⟨rfl, ?_⟩
    rw [qa']
    exact tp.lnk.2.cong (fun z hz => (lS z hz).2.2 4)
  · refine List.nodup_cons.mpr ⟨fun z => ?_, tp.nd⟩
    have := tp.ow f' z
    rcases of' with q | q <;> omega
  · show (if z = f' then 1 else own z) = 1
    rcases List.mem_cons.mp hz with q | q
    · rw [if_pos q]
    · by_cases q2 : z = f'
      · rw [if_pos q2]
      · rw [if_neg q2]; exact tp.ow z q
  · rw [e49, i49]; have := tp.len; simp only [List.length_cons]; omega
  · rw [rw'.rf, List.cons_append, tp.rf]; rfl
  · rw [rw'.f45]; exact (Int.toNat_of_nonneg hpa).symm
  · have := gp.2.1; have := gd.1.2.2; unfold DpOk; omega
  · exact sr.congr n1 rw'.see
  · rw [e48, i48]
    omega
end
end
