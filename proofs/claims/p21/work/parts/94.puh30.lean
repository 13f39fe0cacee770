-- pure rows: IK
section
/-! pure rows: an effect is performed, on both sides -/
section
variable {cs : Nat → ClassId} {lim dE : Nat × Nat} {A : Ad} {r1 r2 NF : Nat} {g4 : Nat → Int32} {k4 : Nat} {fa ta : Nat → Nat} {nf nt : Nat} {M M' : gMem} {w w' : Vw} {a b c t n ci k H K u v r r' T D l m : Nat} {s sb : Nat → Int32} {x y e : Int32}
/-- fuel is taken, and the argument comes off the frame, however long it runs -/
theorem VS.fRaise1 {al tk : Nat} (h : (VS cs lim dE A r1 r2 NF g4 k4) fa ta nf nt M w) (ha : FsO fa nf a) (hg : GoodH w g4 a) (f : FSt w a s (H + 1) r') (h10 : 10 ≤ H) (h50 : H < 50) (h11 : w.2.1 A.ma 11 = nI al) (h12 : w.2.1 A.ma 12 = nI tk) (hb : al < 5000 ∧ tk < 5000) (hl : tk < al) :
    ∃ M3 w3, (VS cs lim dE A r1 r2 NF g4 k4) fa ta nf nt M3 w3 ∧ FSt w3 a s H r' ∧ (∀ k, w3.2.2 a k = w.2.2 a k) ∧ w3.2.1 A.ma 12 = nI (tk + 1) ∧ w3.2.1 A.ma 6 = w.2.1 A.ma 6 + 1 ∧ MaI w w3 A.ma [12, 6] ∧ (∀ k, w3.2.2 A.ma k = w.2.2 A.ma k) ∧ (∀ c, c ≠ a → c ≠ A.ma → Same w w3 c) ∧
    ∀ n, 10 ≤ n → F_Ma_raise cs dE n M A.ma (some a) (nI r) e = F_Ma_raise_37 cs dE n M3 A.ma (some a) (nI r) e (s H) (some a) (hitR w3 g4 e a) (nI 1) := by
  obtain ⟨e1, w1, h1, x12, x6, xm, xq, xs⟩ := (h.fFuel (r := r) ha f h11 h12 hb).2 hl
  have nma := h.neFM ha
  have f1 : FSt w1 a s (H + 1) r' := f.same (xs a nma)
  have ne0 : ¬ (1 : Int32) = 0 := by decide
  generalize hM1 : (F_Ma_takesFuel cs M A.ma (some a) (nI r)).2 = M1 at h1
  obtain ⟨e2, w2, h2, f2, o2⟩ := h1.fPop (H := H) ha f1 h10 h50
  generalize hp2 : F_Fr_pop cs M1 a = p2 at e2 h2
  have sM : Same w1 w2 A.ma := o2.same (Ne.symm nma)
  have qa : ∀ k, w2.2.2 a k = w.2.2 a k := fun k => by rw [o2.2.2, (xs a nma).2.2]
  have hg2 : GoodH w2 g4 a := fun t ht => by
    rw [qa 3] at ht
    obtain ⟨l, m, z1, z2⟩ := hg t ht
    have hT : FsO ta nt t := (h.hs.fr ha).ha t (by rw [h.Q (Or.inl ha)]; exact ht)
    have nat : t ≠ a := fun z => h.neFT ha hT z.symm
    exact ⟨l, m, by rw [(o2.same nat).2.1, (xs t (h.neTM hT)).2.1]; exact z1, z2⟩
  refine ⟨p2.2, w2, h2, f2, qa, ?_, ?_, fun k hk => ?_, fun k => ?_, fun c c1 c2 => (xs c c2).trans (o2.same c1), fun n hn => ?_⟩
  · rw [sM.2.1]; exact x12
  · rw [sM.2.1]; exact x6
  · rw [sM.2.1]; exact xm k hk
  · rw [sM.2.2]; exact xq k
  · unfold F_Ma_raise
    simp only [mbind_eq, e1, if_neg ne0, Option.getD_some, hM1, hp2]
    rw [h2.lay.ma_0.2, e2]
    simp only [Option.getD_some]
    have ec := h2.caseOf (e := e) ha hg2 hn
    rw [ec]
    try rfl
end
section
variable {cs : Nat → ClassId} {lim dE : Nat × Nat} {A : Ad} {r1 r2 NF : Nat} {X : Cx} {G : Nat → Int32} {k4 : Nat} {S S' : Sto} {μ μ' : Mp} {fa fa' ta ta' : Nat → Nat} {nf nf' nt nt' u v v' : Nat} {own : Nat → Nat} {Lf : List Nat} {Wk : Nat → Nat} {M M' : gMem} {w w' : Vw} {σ σ' : mSt} {al tk a h r n nd d cc m W Φ l r' T D f' : Nat} {s : Nat → Int32} {mk : Fr} {ut F : Nat} {L : List Nat} {F2 : List Fr} {f b : Fr} {rest : List Fr} {t u0 u1 W1 : Nat} {e : Nat} {x1 : Int32} {g : Nat → Int}
theorem got_per {S0 : Sto} {K0 Q0 C0 Z0 T0 U0 : Nat} {D0 : Int} (hX : X.Ok) (hmk : mk.node = -1) (c : (SimC cs lim dE A r1 r2 NF X G k4) S μ fa ta nf nt u v own Lf Wk M w σ) (rn : Rn A NF w σ al tk) (tp : Tp X G S μ w (FsO ta v) A own σ mk ut F a L (f :: F2) b rest u1 W1) (fs : FSt w a s (h + 1) r) (bd : r ≤ 1700 ∧ 10 ≤ h ∧ h < 50) (vr : VR X.P S μ t (s h) σ.2.1) (q2 : f.node.toInt = nd) (q3 : Gd X nd) (kd : (X.A 5 nd).toInt = 11) (a1 : cOp G r = 13) (a2 : cFd G r 1 = X.A 6 nd) (a3 : Sbt X.P t (X.tk (X.A 6 nd).toInt.toNat)) (a4 : Pd X G S μ d (r + 1) s h (X.gv (X.A 6 nd).toInt.toNat) F2 u0 e) (bn : Bnd X G S μ w (FsO ta v) a b u0 u1 e) (hW : W + r = W1 + 1701) (hΦ : Φ = W + sumW Wk S.nk + (1000 - (σ.1 48).toInt.toNat) * 1701 + (al - tk) * 1701) (hn : 42100 ≤ n) (hx : x1.toInt = ((al - tk : Nat) : Int)) (hx0 : x1 ≠ 0) (run : RunJ X S0 σ K0 Q0 F C0 Z0 T0 U0 D0) :
    ∃ σ', F_Mo_comes n σ x1 = (1, σ') ∧ σ'.1 47 = σ.1 47 + 1 ∧ ((σ'.1 46 = 1 ∧ (GoA cs lim dE A r1 r2 NF X G k4 mk ut) M σ' al (tk + 1) Φ) ∨ (σ'.1 46 ≠ 1 ∧ (EnA cs lim dE A r1 r2 NF G k4 ut) M σ' (tk + 1) Φ)) := by
  obtain ⟨F', rfl, ef, erf⟩ := rf_top tp hmk (node_ne q2)
  have hF := tp.hF
  have ltk : tk < al := by
    rcases Nat.lt_or_ge tk al with z | z
    · exact z
    · exact absurd (Int32.toInt_inj.mp (by rw [hx]; show ((al - tk : Nat) : Int) = 0; omega)) hx0
  have le := rn.le
  have wy := (cal_way (n := n) (x1 := x1) c.ar (F := F') (by have := tp.f44; omega) (by omega) (by rw [ef]; exact q2) q3.1.1 hx0).1 kd
  have sn := c.sn
  have th := c.th
  have hvt := c.vt
  have huf := c.uf
  have hfl := rn.fl
  have dpp := c.dp
  have tl := tp.len
  have hNF := c.vs.NFb.1
  have uN : u < NF := by omega
  have e47 := fu1 c rn
  generalize hσf : mo_si σ 47 (σ.1 47 + 1) = σf at wy
  have gf : ∀ k, k ≠ 47 → σf.1 k = σ.1 k := fun k hk => by rw [← hσf]; simp [si_1, si_2, sl_1, sl_2, sl_3, ai_1, ai_2, ai_3, ai_4, al_1, al_2, al_3, al_4, cp_1, cp_2, cp_3, cp_4, hk]
  have gf47 : σf.1 47 = σ.1 47 + 1 := by rw [← hσf]; simp [si_1, si_2, sl_1, sl_2, sl_3, ai_1, ai_2, ai_3, ai_4, al_1, al_2, al_3, al_4, cp_1, cp_2, cp_3, cp_4]
  have gf2 : σf.2 = σ.2 := by rw [← hσf]; rfl
  have frf : frm σf = frm σ := frm_of (fun k _ => by rw [gf2]) (fun k _ => by rw [gf2])
  have krf : kfr σf = kfr σ := kfr_of (fun k _ => by rw [gf2]) (fun k _ => by rw [gf2])
  have runf : RunJ X S0 σf K0 Q0 (F' + 1) C0 Z0 T0 U0 D0 := run.congr (fun k hk => gf k (by omega)) (fun k _ => by rw [gf2]) (fun k _ => by rw [gf2])
  have ha := c.fsa tp.ow1
  have nma := c.vs.neFM ha
  have nsa := c.vs.neFS ha
  have nms := c.vs.neMS
  obtain ⟨w0, v0, f0', o0, ew⟩ := c.vs.work ha fs (by omega) (op_of (y := 13) a1 rfl)
  have sM := o0.same (Ne.symm nma)
  have sS := o0.same (Ne.symm nsa)
  obtain ⟨M3, w3, v3, f3', qa3, m12, m6, mI, mQ, sm3, er⟩ := v0.fRaise1 (al := al) (tk := tk) (r := r) (e := X.A 6 nd) ha ((bn.mono Sto.le.rfl' MpLe.rfl' (o0.2.2 a 3) (c.tvo ha o0)).good hX) f0' bd.2.1 bd.2.2 (by rw [sM.2.1]; exact rn.al) (by rw [sM.2.1]; exact rn.tk) (by omega) ltk
  have M0 : ∀ k, k ≠ 12 → k ≠ 6 → w3.2.1 A.ma k = w.2.1 A.ma k := fun k z1 z2 => by rw [mI k (by simp [si_1, si_2, sl_1, sl_2, sl_3, ai_1, ai_2, ai_3, ai_4, al_1, al_2, al_3, al_4, cp_1, cp_2, cp_3, cp_4, z1, z2]), sM.2.1]
  have n6 : w3.2.1 A.ma 6 = σ.1 47 + 1 := by rw [m6, sM.2.1, c.fu]
  have hDn : σ.1 49 = nI (σ.1 49).toInt.toNat := nI_ofT (by omega) (by omega)
  have hTn : σ.1 48 = nI (σ.1 48).toInt.toNat := nI_ofT (by omega) (by omega)
  have e8 : w3.2.1 A.ma 8 = nI (σ.1 49).toInt.toNat := by rw [M0 8 (by decide) (by decide), dpp.1]; exact hDn
  have e7 : w3.2.1 A.ma 7 = nI (σ.1 48).toInt.toNat := by rw [M0 7 (by decide) (by decide), th.1]; exact hTn
  have q4 : ∀ z, z ≠ a → z ≠ A.ma → Same w w3 z := fun z z1 z2 => (o0.same z1).trans (sm3 z z1 z2)
  have sS3 := q4 A.st (Ne.symm nsa) (Ne.symm nms)
  have qa : ∀ k, w3.2.2 a k = w.2.2 a k := fun k => by rw [qa3, o0.2.2]
  have oa : own a = 1 := tp.ow1
  have lS3 : ∀ z, z ∈ L → Same w w3 z := fun z hz => by
    have hzo : own z = 1 := tp.ow z (by simp [si_1, si_2, sl_1, sl_2, sl_3, ai_1, ai_2, ai_3, ai_4, al_1, al_2, al_3, al_4, cp_1, cp_2, cp_3, cp_4, hz])
    exact q4 z (fun q => (List.nodup_cons.mp tp.nd).1 (by rw [← q]; exact hz)) (c.vs.neFM (c.fsa hzo))
  have tV3 : ∀ z, FsO ta v z → SameT w w3 z ∧ FsO ta v z := fun z hz => ⟨(q4 z (fun q => c.vs.neFT ha (c.tv hz) q.symm) (c.vs.neTM (c.tv hz))).T, hz⟩
  have ba : Bs X G S μ w3 (FsO ta v) (a :: L) (F2 ++ b :: rest) (X.gv (X.A 6 nd).toInt.toNat) ut (W1 + 1701 - (r + 1)) := ⟨s, h, r + 1, F2, b, rest, u1, W1, f3', rfl, ⟨d, u0, e, a4, bn.mono Sto.le.rfl' MpLe.rfl' (qa 3) tV3⟩, tp.bs.mono Sto.le.rfl' MpLe.rfl' lS3 tV3, by have := a4.bd; omega⟩
  have lnk3 : Lnk w3 (some a) (a :: L) := ⟨rfl, by rw [qa]; exact tp.lnk.2.cong (fun z hz => (lS3 z hz).2.2 4)⟩
  have gd3 : ∀ z, z ∈ a :: L → FsO fa nf z ∧ GoodH w3 G z := fun z hz => ⟨c.fsa (tp.ow z hz), ba.good hX z hz⟩
  have wk : ∀ m, 500 ≤ m → F_Ma_work cs dE m M A.ma (some a) (nI r) = F_Ma_raise_37 cs dE m M3 A.ma (some a) (nI r) (X.A 6 nd) (s h) (some a) (hitR w3 G (X.A 6 nd) a) (nI 1) := fun m hm => by
    rw [(ew m).2.2.2.2.2.2.2.2.2.2.2.1 rfl, a2]
    exact er m (by omega)
  have llen : (a :: L).length = L.length + 1 := rfl
  have ctz : ctd X.A (frm σf F').node = 0 := by rw [frf, ef, (ctd_of (X := X) q2).1, if_neg (by omega)]
  refine ⟨_, wy, ?h47, ?_⟩
  case h47 =>
    rcases r_perf hX runf (x1 := X.A 6 nd) (n := n) ctz hn with ⟨-, m2⟩ | ⟨kx, ndh, qq, many, -, -, -, -, full, ok⟩
    · rw [m2, si_1, if_neg (by omega), si_1, if_neg (by omega)]
      exact gf47
    · by_cases q : 1000 < (σf.1 48).toInt + 1 + many
      · rw [full q, si_1, if_neg (by omega)]
        exact gf47
      · rw [(ok (by omega)).f47]
        exact gf47
  have e48 := gf 48 (by omega)
  have rp0 := r_perf hX runf (x1 := X.A 6 nd) (n := n) ctz hn
  rw [frf, e48] at rp0
  rcases rp0 with ⟨m1, m2⟩ | ⟨kx, ndh, qq, many, hhF, hit, mis, hmany, full, ok⟩
  · right
    rw [m2]
    have hms : ∀ z, z ∈ F2 ++ b :: rest → Mis X (X.A 6 nd) z := fun z hz => by
      rw [← erf] at hz
      rcases List.mem_append.mp hz with q | q
      · obtain ⟨i, i1, i2⟩ := rfs_mem q
        rw [i2]; exact m1 i i1
      · simp only [List.mem_singleton] at q
        rw [q]; exact Or.inl hmk
    have hm := ba.srch hX hms
    have stp := c.stp rn tp.top ha fs (fun m hm' => (wk m hm').trans (v3.miss (a :: L) a 1 m lnk3 gd3 hm (by rw [llen]; omega) (by rw [llen]; omega)))
    have g1 := v3.putN (ci := 8) (k := 9) (x := X.A 6 nd) v3.oM (by decide) (by decide) (by decide) (by decide)
    have g2 := g1.putN (ci := 8) (k := 4) (x := 4) g1.oM (by decide) (by decide) (by decide) (by decide)
    refine ⟨by simp [si_1, si_2, sl_1, sl_2, sl_3, ai_1, ai_2, ai_3, ai_4, al_1, al_2, al_3, al_4, cp_1, cp_2, cp_3, cp_4], 1, _, CSts.one stp, ⟨fa, ta, nf, nt, _, g2, by simp [si_1, si_2, sl_1, sl_2, sl_3, ai_1, ai_2, ai_3, ai_4, al_1, al_2, al_3, al_4, cp_1, cp_2, cp_3, cp_4], by simp [si_1, si_2, sl_1, sl_2, sl_3, ai_1, ai_2, ai_3, ai_4, al_1, al_2, al_3, al_4, cp_1, cp_2, cp_3, cp_4], ?_, ?_, ?_, ?_, ?_, ?_, fun _ => ?_, fun z => absurd z (by simp [si_1, si_2, sl_1, sl_2, sl_3, ai_1, ai_2, ai_3, ai_4, al_1, al_2, al_3, al_4, cp_1, cp_2, cp_3, cp_4])⟩, by omega⟩
    · rw [vpi_i, if_pos ⟨rfl, rfl⟩]; simp [si_1, si_2, sl_1, sl_2, sl_3, ai_1, ai_2, ai_3, ai_4, al_1, al_2, al_3, al_4, cp_1, cp_2, cp_3, cp_4]
    · rw [vpi_i, if_neg (by omega), vpi_i, if_neg (by omega), n6]; simp [si_1, si_2, sl_1, sl_2, sl_3, ai_1, ai_2, ai_3, ai_4, al_1, al_2, al_3, al_4, cp_1, cp_2, cp_3, cp_4, gf47]
    · rw [vpi_i, if_neg (by omega), vpi_i, if_neg (by omega), M0 7 (by decide) (by decide), th.1]; simp [si_1, si_2, sl_1, sl_2, sl_3, ai_1, ai_2, ai_3, ai_4, al_1, al_2, al_3, al_4, cp_1, cp_2, cp_3, cp_4, gf 48 (by omega)]
    · rw [vpi_i, if_neg (by omega), vpi_i, if_neg (by omega), M0 8 (by decide) (by decide), dpp.1]; simp [si_1, si_2, sl_1, sl_2, sl_3, ai_1, ai_2, ai_3, ai_4, al_1, al_2, al_3, al_4, cp_1, cp_2, cp_3, cp_4, gf 49 (by omega)]
    · rw [vpi_i, if_neg (by omega), vpi_i, if_pos ⟨rfl, rfl⟩]; simp [si_1, si_2, sl_1, sl_2, sl_3, ai_1, ai_2, ai_3, ai_4, al_1, al_2, al_3, al_4, cp_1, cp_2, cp_3, cp_4]
    · rw [vpi_i, if_neg (by omega), vpi_i, if_neg (by omega)]; exact m12
    · rw [vpi_i, if_neg (by omega), vpi_i, if_neg (by omega), M0 5 (by decide) (by decide)]; exact c.va
  obtain ⟨ru, s1, s2, s3⟩ := rfs_split (σ := σ) (h := kx) (F := F') hhF
  have erf' : F2 ++ b :: rest = ru ++ frm σ kx :: (rfs σ kx ++ [mk]) := by rw [← erf, s1]; simp [si_1, si_2, sl_1, sl_2, sl_3, ai_1, ai_2, ai_3, ai_4, al_1, al_2, al_3, al_4, cp_1, cp_2, cp_3, cp_4]
  have ba' := ba
  rw [erf'] at ba'
  obtain ⟨L1, b', L2, ub, u', Wa, Wb, g1, g2, g3, g4, g5, g6, g7⟩ := ba'.hit hX hit (fun z hz => by
    obtain ⟨i, i1, i2, i3⟩ := s2 z hz
    rw [i3]; exact mis i i1 i2)
  have lenb : (L1 ++ [b']).length = 1 + L1.length := by rw [List.length_append]; show L1.length + 1 = _; omega
  have hcn : many = 1 + L1.length := by
    have e1 := g3.cnt
    have e2 := cntL_rfs (A := X.A) (σ := σ) (h := kx) (j := F' - kx) (r1 := ru ++ [frm σ kx]) (by rw [show kx + (F' - kx) = F' by omega, s1]; simp [si_1, si_2, sl_1, sl_2, sl_3, ai_1, ai_2, ai_3, ai_4, al_1, al_2, al_3, al_4, cp_1, cp_2, cp_3, cp_4])
    rw [hmany, ← e2, e1, lenb]
  subst hcn
  have hl2 : L2 ≠ [] := fun q => by
    rw [q] at g5
    have := g5.1
    simp [si_1, si_2, sl_1, sl_2, sl_3, ai_1, ai_2, ai_3, ai_4, al_1, al_2, al_3, al_4, cp_1, cp_2, cp_3, cp_4] at this
  have hl3 : 1 ≤ L2.length := by
    cases L2 with
    | nil => exact absurd rfl hl2
    | cons y L2 => simp only [List.length_cons]; omega
  have hlen : L.length = L1.length + L2.length := by
    have := congrArg List.length g1
    simp only [List.length_cons, List.length_append] at this
    omega
  have lnk' : Lnk w3 (some a) (L1 ++ b' :: L2) := by rw [← g1]; exact lnk3
  have gd' : ∀ z, z ∈ L1 ++ b' :: L2 → FsO fa nf z ∧ GoodH w3 G z := fun z hz => gd3 z (by rw [g1]; exact hz)
  have hbm : b' ∈ a :: L := by rw [g1]; simp [si_1, si_2, sl_1, sl_2, sl_3, ai_1, ai_2, ai_3, ai_4, al_1, al_2, al_3, al_4, cp_1, cp_2, cp_3, cp_4]
  have hl1m : ∀ z, z ∈ L1 → z ∈ a :: L := fun z hz => by rw [g1]; simp [si_1, si_2, sl_1, sl_2, sl_3, ai_1, ai_2, ai_3, ai_4, al_1, al_2, al_3, al_4, cp_1, cp_2, cp_3, cp_4, hz]
  have hl2m : ∀ z, z ∈ L2 → z ∈ a :: L := fun z hz => by rw [g1]; simp [si_1, si_2, sl_1, sl_2, sl_3, ai_1, ai_2, ai_3, ai_4, al_1, al_2, al_3, al_4, cp_1, cp_2, cp_3, cp_4, hz]
  have hbl : ∀ z, z ∈ L1 ++ [b'] → z ∈ a :: L := fun z hz => by
    rcases List.mem_append.mp hz with q | q
    · exact hl1m z q
    · simp only [List.mem_singleton] at q
      rw [q]; exact hbm
  have ndA := tp.nd
  rw [g1] at ndA
  obtain ⟨nd1, nd2, nd3⟩ := nd_spl ndA
  obtain ⟨nd4, nd5⟩ := List.nodup_cons.mp nd2
  have nb1 : ∀ z, z ∈ L1 → z ≠ b' := fun z hz q => nd3 z hz (by rw [q]; simp [si_1, si_2, sl_1, sl_2, sl_3, ai_1, ai_2, ai_3, ai_4, al_1, al_2, al_3, al_4, cp_1, cp_2, cp_3, cp_4])
  have nb2 : ∀ z, z ∈ L2 → z ≠ b' := fun z hz q => nd4 (by rw [← q]; exact hz)
  have nl : ∀ z, z ∈ L2 → z ∉ L1 ++ [b'] := fun z hz q => by
    rcases List.mem_append.mp q with y | y
    · exact nd3 z y (by simp [si_1, si_2, sl_1, sl_2, sl_3, ai_1, ai_2, ai_3, ai_4, al_1, al_2, al_3, al_4, cp_1, cp_2, cp_3, cp_4, hz])
    · simp only [List.mem_singleton] at y
      exact nb2 z hz y
  have ndb : (L1 ++ [b']).Nodup := nd_app nd1 (List.nodup_cons.mpr ⟨by simp [si_1, si_2, sl_1, sl_2, sl_3, ai_1, ai_2, ai_3, ai_4, al_1, al_2, al_3, al_4, cp_1, cp_2, cp_3, cp_4], List.nodup_nil⟩) (fun z y1 y2 => by
    simp only [List.mem_singleton] at y2
    exact nb1 z y1 y2)
  obtain ⟨th', l, l', cx, gg, kq, uq, y1, y2, y3, y4, y5, y6, y7, y8, y9, y10, y11⟩ := g7
  obtain ⟨hi1, hi2, hi3, hi4, hi5, hi6, hi7⟩ := hit
  have cf := hX.cf ndh hi2 hi3
  have e8' := y1.eight hi3
  have clq := hX.cl ndh hi2 hi3 qq hi4 hi5
  have lt5 := y5.lt
  obtain ⟨c9, mm, mm', b1, b2, b3, b4, b5, b6, b7, b8, b9, b10, b11⟩ := y5.j8 hi3
  obtain ⟨j1, j2, j3, j4, bb, bb', j5, j6, j7, j8, j9⟩ := b11 (qq - (X.A 14 ndh).toInt.toNat) (by omega)
  rw [show (X.A 14 ndh).toInt.toNat + (qq - (X.A 14 ndh).toInt.toNat) = qq by omega] at j2 j3 j4 j7
  have lt7 := j7.lt
  generalize hpp : l + 1 + (qq - (X.A 14 ndh).toInt.toNat) = p at y8 j1 j2 j3 j4 j5
  have hpn : hitR w3 G (X.A 6 nd) b' ≠ -1 := by
    rw [y8]
    intro q
    have := congrArg Int32.toInt q
    rw [nT (by omega)] at this
    simp only [i32_neg1] at this
    omega
  have stpR : CStp cs dE A M (RTl cs dE M3 A.ma (some b') (nI p) (nI (1 + L1.length)) (s h)) := c.stp rn tp.top ha fs (fun m hm' => (wk m hm').trans (by
    rw [← y8]
    exact v3.search (L2 := L2) hpn L1 a 1 m lnk' gd' g2 (by omega) (by omega)))
  by_cases h1000 : (σ.1 48).toInt + 1 + (1 + L1.length : Nat) ≤ 1000
  rotate_left
  · right
    rw [full (by omega)]
    have em : (1 : Int32) + nI (1 + L1.length) = nI (1 + (1 + L1.length)) := (nI_ad (m := 1) (n := 1 + L1.length) (by omega) : nI 1 + nI (1 + L1.length) = _)
    have er5 : RTl cs dE M3 A.ma (some b') (nI p) (nI (1 + L1.length)) (s h) = cP 8 M3 A.ma 4 (.int 5) := by
      unfold RTl
      have ne0 : ¬ (1 : Int32) = 0 := by decide
      rw [em, ((v3.fFull (T := (σ.1 48).toInt.toNat) (m := 1 + (1 + L1.length)) e7 rfl (by omega)).1 (by omega)).1]
      simp only [mbind_eq, if_neg ne0]
    rw [er5] at stpR
    exact ⟨by simp [si_1, si_2, sl_1, sl_2, sl_3, ai_1, ai_2, ai_3, ai_4, al_1, al_2, al_3, al_4, cp_1, cp_2, cp_3, cp_4], 1, _, CSts.one stpR, fin_at v3 (by decide) (by rw [n6, gf47]) (by rw [M0 7 (by decide) (by decide), gf 48 (by omega)]; exact th.1) (by rw [M0 8 (by decide) (by decide), gf 49 (by omega)]; exact dpp.1) (by rw [M0 9 (by decide) (by decide)]; exact c.un) m12 (by rw [M0 5 (by decide) (by decide)]; exact c.va), by omega⟩
  left
  have rp := ok h1000
  clear ok full
  generalize F_Mo_performs n σf (X.A 6 nd) = σ' at rp ⊢
  have enk : S0.nk = S.nk := by
    have z1 := runf.hp.co
    have z2 := c.nk
    rw [gf 61 (by omega)] at z1
    omega
  rw [enk] at rp
  have p48 := rp.f48
  rw [gf 48 (by omega)] at p48
  have p49 := rp.f49
  rw [gf 49 (by omega)] at p49
  have p47 : (σ'.1 47).toInt = (σ.1 47).toInt + 1 := by rw [rp.f47, gf47, e47]
  have p61 := rp.f61
  have ob : own b' = 1 := tp.ow b' hbm
  have hB := c.fsa ob
  have usb := c.usd (a := b') (by rw [ob]; decide) (by rw [ob]; decide)
  have v1n := c.v1.2
  have hvt' : ∀ i, v ≤ i → i < nt → ta i ≠ th' := fun i i1 i2 q => by
    obtain ⟨j, z1, z2⟩ := y4
    have := c.vs.ti i j i2 (by omega) (by rw [q, z2])
    omega
  obtain ⟨f', fa', nf', ta', nt', w4, v4, ⟨p1, p2, p3, p4⟩, ⟨x1', x2', x3'⟩, ⟨t1, t2, t3, t4, t5⟩, ⟨vb1, vb2, vb3, vb4⟩, ⟨n1, n2, n3, n4, n5⟩, ⟨m7, m8, mI4, mQ4⟩, sv, sf4, sm4⟩ := v3.fRaise (b := b') (th := th') (m := 1 + L1.length) (T := (σ.1 48).toInt.toNat) (D := (σ.1 49).toInt.toNat) (v := v) (u := u) (p := p) (rb := bb) (K1 := (X.A 17 qq).toInt.toNat) (K2 := (X.A 18 qq).toInt.toNat) (a := a) hB ⟨usb.1, by rw [sS3.2.2]; exact usb.2⟩ y3 (by omega) e7 (by omega) e8 (by omega) (by omega) (by rw [sS3.2.1]; exact c.sv) (by omega) hvt' (by rw [sS3.2.1]; exact c.su) uN (by omega) (nI_ofT j5 (by omega)) (j3.trans (nI_ofT (by omega) (by omega))) (by omega) (j4.trans (nI_ofT (by omega) (by omega))) (by omega) (by rw [mQ, o0.2.2]; exact tp.top) (s h)
  have hT' : FsO ta' nt' (ta' v) := ⟨v, x3', rfl⟩
  have hus : ∀ z, own z ≠ 0 → own z ≠ 2 → z ≠ f' := fun z z1 z2 => by
    have := c.usd (a := z) z1 z2
    exact p4 z ⟨this.1, by rw [sS3.2.2]; exact this.2⟩
  have us1 : ∀ z, own z = 1 → z ≠ f' := fun z z1 => hus z (by rw [z1]; decide) (by rw [z1]; decide)
  have naf : a ≠ f' := us1 a oa
  have nbf : b' ≠ f' := us1 b' ob
  have fS3 : ∀ z, own z ≠ 0 → z ≠ b' → z ≠ f' → Same w3 w4 z := fun z hz c2 c3 => by
    have hz' := c.fs (c := z) hz
    exact sm4 z c2 c3 (fun q => v4.neFT (hz'.le p1 p2) hT' q) (c.vs.neFM hz') (c.vs.neFS hz')
  have fSame : ∀ z, own z ≠ 0 → z ≠ a → z ≠ b' → z ≠ f' → Same w w4 z := fun z hz c1 c2 c3 => (q4 z c1 (c.vs.neFM (c.fs (c := z) hz))).trans (fS3 z hz c2 c3)
  have tS3 : ∀ i, i < v → ta' i = ta i ∧ Same w3 w4 (ta i) := fun i hi => by
    have ti := c.tv (z := ta i) ⟨i, hi, rfl⟩
    have ee := x2' i (by omega)
    have ti' : FsO ta' nt' (ta i) := ⟨i, by omega, ee⟩
    refine ⟨ee, sm4 _ (fun z => c.vs.neFT hB ti z.symm) (fun z => v4.neFT p3 ti' z.symm) (fun z => ?_) (c.vs.neTM ti) (c.vs.neTS ti)⟩
    have := v4.ti i v (by omega) x3' (by rw [ee, z])
    omega
  have tS : ∀ i, i < v → ta' i = ta i ∧ Same w w4 (ta i) := fun i hi => by
    have ti := c.tv (z := ta i) ⟨i, hi, rfl⟩
    exact ⟨(tS3 i hi).1, (q4 _ (fun z => c.vs.neFT ha ti z.symm) (c.vs.neTM ti)).trans (tS3 i hi).2⟩
  have tV34 : ∀ z, FsO ta v z → SameT w3 w4 z ∧ FsO ta' (v + 1) z := fun z hz => by
    obtain ⟨i, i1, i2⟩ := hz
    obtain ⟨z1, z2⟩ := tS3 i i1
    exact ⟨by rw [← i2]; exact z2.T, i, by omega, by rw [z1]; exact i2⟩
  have sf' : StF A fa' nf' u w w4 f' := by
    have e4 : w3.2.2 f' 4 = w.2.2 f' 4 := (q4 f' (Ne.symm naf) (v4.neFM p3)).2.2 4
    unfold StF at sf4 ⊢
    rw [sS3.2.2, sS3.2.1, e4] at sf4
    exact sf4
  obtain ⟨u2, Lf', eu, hu1, hu2, ⟨lk, lnd, low⟩, ou', of'⟩ := c.enterF v4 ⟨p1, p2⟩ sf' (fun z z1 z2 => (fSame z (by rw [z1]; decide) (fun q => by rw [q, oa] at z1; omega) (fun q => by rw [q, ob] at z1; omega) z2).2.2 4)
  -- the store, grown
  obtain ⟨S', s1', s2', s3', s4'⟩ : ∃ S' : Sto, S'.nf = S.nf ∧ S'.nk = S.nk + 1 ∧ (∀ i, S'.ft i = S.ft i) ∧ ∀ i, S'.kt i = if i = S.nk then kq else S.kt i := ⟨⟨S.nf, S.nk + 1, S.ft, fun i => if i = S.nk then kq else S.kt i⟩, rfl, rfl, fun _ => rfl, fun _ => rfl⟩
  obtain ⟨μ', u1', u2'⟩ : ∃ μ' : Mp, (∀ i, μ'.1 i = μ.1 i) ∧ ∀ i, μ'.2 i = if i = S.nk then v else μ.2 i := ⟨(μ.1, fun i => if i = S.nk then v else μ.2 i), fun _ => rfl, fun _ => rfl⟩
  have hS : S.le S' := ⟨by omega, by omega, fun i _ => s3' i, fun i hi => by rw [s4', if_neg (by omega)]⟩
  have hm : MpLe S μ μ' := ⟨fun i _ => u1' i, fun i hi => by rw [u2', if_neg (by omega)]⟩
  have kt1 : S'.kt S.nk = kq := by rw [s4', if_pos rfl]
  have mu1 : μ'.2 S.nk = v := by rw [u2', if_pos rfl]
  have cut := lnk'.cut (w' := w4) (fun z hz => (fS3 z (by rw [tp.ow z (hl1m z hz)]; decide) (nb1 z hz) (us1 z (tp.ow z (hl1m z hz)))).2.2 4) vb1
  have leA := g3.le
  rw [lenb] at leA
  have rfe : ∀ j, rfs σf j = rfs σ j := fun j => rfs_c (fun i _ => by rw [frf])
  have ks := kfs_keep (σ := σf) (σ' := σ') (K := K0) (h := kx) (m := F' - kx) rp.kf (F' - kx) (Nat.le_refl _)
  rw [show kx + (F' - kx) = F' by omega, rfe, rfe, s1] at ks
  have ks' : kfs σ' K0 (F' - kx) = ru ++ [frm σ kx] := List.append_cancel_right (as := kfs σ' K0 (F' - kx)) (bs := rfs σ kx) (cs := ru ++ [frm σ kx]) (by rw [ks]; simp [si_1, si_2, sl_1, sl_2, sl_3, ai_1, ai_2, ai_3, ai_4, al_1, al_2, al_3, al_4, cp_1, cp_2, cp_3, cp_4])
  obtain ⟨Wn, wn1⟩ : ∃ Wn : Nat → Nat, ∀ j, Wn j = if j = S.nk then Wa else Wk j := ⟨fun j => if j = S.nk then Wa else Wk j, fun _ => rfl⟩
  obtain ⟨on, on1⟩ : ∃ on : Nat → Nat, ∀ z, on z = if z = f' then 1 else if z ∈ L1 ++ [b'] then 3 + S.nk else own z := ⟨fun z => if z = f' then 1 else if z ∈ L1 ++ [b'] then 3 + S.nk else own z, fun _ => rfl⟩
  have sumE : sumW Wn (S.nk + 1) = sumW Wk S.nk + Wa := by
    show sumW Wn S.nk + Wn S.nk = _
    rw [sumW_c (W := Wk) (W' := Wn) (n := S.nk) (fun i hi => by rw [wn1, if_neg (by omega)]), wn1, if_pos rfl]
  have onO : ∀ z, own z ≠ 1 → z ≠ f' → on z = own z := fun z z1 z2 => by
    rw [on1, if_neg z2, if_neg (fun q => z1 (tp.ow z (hbl z q)))]
  have sc : (SimC cs lim dE A r1 r2 NF X G k4) S' μ' fa' ta' nf' nt' u2 (v + 1) on Lf' Wn (RTl cs dE M3 A.ma (some b') (nI p) (nI (1 + L1.length)) (s h)) w4 σ' := by
    refine ⟨v4, eu, by omega, sv, ⟨by omega, by omega⟩, ⟨lk, lnd, fun z hz => ?_⟩, fun z hz => ?_, ⟨?_, by omega, by omega⟩, ⟨?_, by omega, by omega⟩, ?_, ?_, ?_, ?_, ?_, ?_, fun i hi => ?_, fun k hk => ?_, fun k k' hk hk' hh => ?_, ?_, by omega, by omega, by omega⟩
    · obtain ⟨z1, z2⟩ := low z hz
      rw [onO z (by omega) z2]; exact z1
    · by_cases q : z = f'
      · exact ou' z (Or.inr q)
      · refine ou' z (Or.inl ?_)
        by_cases q1 : own z = 1
        · omega
        · rw [onO z q1 q] at hz; exact hz
    · rw [m7]; exact (nI_ofT (by omega) (by omega)).symm
    · rw [m8]; exact (nI_ofT (by omega) (by omega)).symm
    · rw [mI4 6 (by decide), n6, rp.f47, gf47]
    · rw [mI4 9 (by decide), M0 9 (by decide) (by decide)]; exact c.un
    · rw [mI4 5 (by decide), M0 5 (by decide) (by decide)]; exact c.va
    · rw [rp.f56, gf 56 (by omega), s1']; exact c.nf
    · rw [s2']; omega
    · exact c.ar.congr (fun k _ _ => by rw [rp.tab k (by omega), gf2])
    · rw [rp.a54, rp.a55, gf2]
      rw [s1'] at hi
      exact (c.fn i hi).mono hi hS hm (Nat.le_succ _) (fun j hj => ⟨(tS j hj).1, (tS j hj).2.T⟩)
    · by_cases q : k = S.nk
      · subst q
        have e57 : (σ'.2.2.1 57 S.nk).toInt.toNat = K0 := by rw [rp.a57, if_pos rfl]; omega
        have e58 : (σ'.2.2.1 58 S.nk).toInt.toNat = F' - kx := by rw [rp.a58, if_pos rfl]; omega
        have e60 : σ'.2.2.1 60 S.nk = 0 := by rw [rp.a60, if_pos rfl]
        refine ⟨X.gv (X.A 16 qq).toInt.toNat, ub, ⟨by rw [mu1]; omega, by rw [mu1]; exact t1, by rw [mu1, t2, e60], by rw [mu1, t5, rp.a59, if_pos rfl], by rw [kt1]; exact y9⟩, Or.inl e60, fun z => absurd e60 z, fun _ => ⟨L1 ++ [b'], by simp [si_1, si_2, sl_1, sl_2, sl_3, ai_1, ai_2, ai_3, ai_4, al_1, al_2, al_3, al_4, cp_1, cp_2, cp_3, cp_4], ?_, ?_, ndb, fun z hz => ?_, ?_, ?_, ?_⟩⟩
        · rw [mu1, t3]; exact cut.1
        · rw [mu1, t4]; simp [si_1, si_2, sl_1, sl_2, sl_3, ai_1, ai_2, ai_3, ai_4, al_1, al_2, al_3, al_4, cp_1, cp_2, cp_3, cp_4]
        · rw [on1, if_neg (us1 z (tp.ow z (hbl z hz))), if_pos hz]
        · rw [rp.a59, if_pos rfl, nT (by omega), lenb]
        · rw [lenb]; omega
        · rw [e57, e58, ks', wn1, if_pos rfl, hi6]
          refine g3.monoF hS hm (fun z hz => ?_) tV34
          rcases List.mem_append.mp hz with y | y
          · have sm := fS3 z (by rw [tp.ow z (hl1m z y)]; decide) (nb1 z y) (us1 z (tp.ow z (hl1m z y)))
            exact ⟨sm.1, sm.2.1, sm.2.2 3⟩
          · simp only [List.mem_singleton] at y
            rw [y]; exact ⟨vb4, vb3, vb2 3 (by decide)⟩
      · rw [s2'] at hk
        have hk' : k < S.nk := by omega
        have kk := c.kn k hk'
        have hlt : μ.2 k < v := by obtain ⟨_, _, ⟨z, _⟩, _⟩ := kk; exact z
        obtain ⟨fk, mk', _, _, _, _, _, k1, k2, _, k5, _⟩ := runf.hp.ko k (by omega)
        have e57 : (σ'.2.2.1 57 k).toInt = (σ.2.2.1 57 k).toInt := by rw [rp.a57, if_neg q, gf2]
        have e58 : (σ'.2.2.1 58 k).toInt = (σ.2.2.1 58 k).toInt := by rw [rp.a58, if_neg q, gf2]
        rw [gf2] at k1 k2
        refine kk.mono hk' hS hm (Nat.le_succ _) (fun i hi => ⟨(tS i hi).1, (tS i hi).2.T⟩) ((tS _ hlt).2.2.1 3) (fun z hz => ?_) (by rw [rp.a60, if_neg q, gf2]) (by rw [rp.a59, if_neg q, gf2]) ?_ (by rw [wn1, if_neg q])
        · have zf : z ≠ f' := hus z (by omega) (by omega)
          exact ⟨fSame z (by omega) (fun y => by rw [y, oa] at hz; omega) (fun y => by rw [y, ob] at hz; omega) zf, by rw [onO z (by omega) zf]; exact hz⟩
        · rw [e57, e58]
          exact kfs_c (fun i i1 i2 => by rw [rp.kf, if_neg (by omega), krf])
    · rw [s2'] at hk hk'
      rw [u2', u2'] at hh
      have hlt : ∀ j, j < S.nk → μ.2 j < v := fun j hj => by
        have kk := c.kn j hj
        obtain ⟨_, _, ⟨z, _⟩, _⟩ := kk; exact z
      by_cases q : k = S.nk
      · by_cases q' : k' = S.nk
        · omega
        · rw [if_pos q, if_neg q'] at hh
          have := hlt k' (by omega)
          omega
      · by_cases q' : k' = S.nk
        · rw [if_neg q, if_pos q'] at hh
          have := hlt k (by omega)
          omega
        · rw [if_neg q, if_neg q'] at hh
          exact c.ki k k' (by omega) (by omega) hh
    · rw [s2', sumE]
      have := c.hw
      omega
  obtain ⟨fr, fm, rfn⟩ := rp.rf
  have gp := y1.part hX (parts_q hi3 hi4 hi5)
  refine ⟨by rw [rp.f46, gf 46 (by omega)]; exact rn.en, 1, _, Wb + 1701 - bb + sumW Wn S'.nk + (1000 - (σ'.1 48).toInt.toNat) * 1701 + (al - (tk + 1)) * 1701, CSts.one stpR, ⟨S', μ', fa', ta', nf', nt', u2, v + 1, on, Lf', Wn, w4, Wb + 1701 - bb, sc, ⟨by rw [mI4 4 (by decide), M0 4 (by decide) (by decide)]; exact rn.st, by rw [mI4 13 (by decide), M0 13 (by decide) (by decide)]; exact rn.wt, by rw [mI4 11 (by decide), M0 11 (by decide) (by decide)]; exact rn.al, by rw [mI4 12 (by decide)]; exact m12, by omega, by rw [rp.f46, gf 46 (by omega)]; exact rn.en, by rw [p47]; omega⟩, ⟨kx + 1, f', L2, w4.1 f', 10, bb, [], fr, rfs σ kx ++ [mk], uq, u', Wb, ⟨by have := rp.f44; omega, by omega, ?_, ?_, fun z hz => ?_, by omega, ?_, ?_⟩, by omega, Or.inl ⟨rp.f51, (X.A 19 qq).toInt.toNat, bb', c9, _, ?_, gp.1, ?_, by omega, ⟨fun _ => rfl, n2, n3⟩, j7, y10, ?_, 1, uq, bb', ⟨⟨by omega, by omega, by omega⟩, Or.inl ⟨rfl, rfl, rfl, .rfl'⟩⟩, Or.inl ⟨fm, n4, j8, (Sbt.of y11).trans g4⟩⟩⟩, rfl⟩, ?_⟩
  · rw [mQ4]
    refine ⟨rfl, ?_⟩
    rw [n5]
    exact cut.2.cong (fun z hz => (fS3 z (by rw [tp.ow z (hl2m z hz)]; decide) (nb2 z hz) (us1 z (tp.ow z (hl2m z hz)))).2.2 4)
  · exact List.nodup_cons.mpr ⟨fun z => us1 f' (tp.ow f' (hl2m f' z)) rfl, nd5⟩
  · rcases List.mem_cons.mp hz with q | q
    · rw [on1, if_pos q]
    · have o1 := tp.ow z (hl2m z q)
      rw [on1, if_neg (us1 z o1), if_neg (nl z q)]; exact o1
  · rw [rfn, rfe]; rfl
  · exact g5.mono hS hm (fun z hz => fS3 z (by rw [tp.ow z (hl2m z hz)]; decide) (nb2 z hz) (us1 z (tp.ow z (hl2m z hz)))) tV34
  · rw [rp.f45]; exact (Int.toNat_of_nonneg clq.2.2.2).symm
  · have := gp.2.1
    have := y1.1.2.2
    unfold DpOk
    omega
  · have base : SR X.P S' μ' (env gg (X.A 17 qq).toInt.toNat (X.tk (X.A 16 qq).toInt.toNat)) (fun j => if j = (X.A 17 qq).toInt.toNat then s h else w3.1 th' j) (fun j => if j = (X.A 17 qq).toInt.toNat then σ.2.1 else (frm σ kx).see j) := by
      refine (y7.mono hS hm).xenv (fun k _ hne => if_neg hne) (fun k _ hne => if_neg hne) ?_
      rw [if_pos rfl, if_pos rfl, hi6]
      exact (vr.mono hS hm).sub hX.fo a3
    refine base.xenv (fun k hk hne => ?_) (fun k hk hne => ?_) ?_
    · rw [n1 k hk, if_neg hne]
    · by_cases z : k = (X.A 17 qq).toInt.toNat
      · rw [if_pos z, z, rp.s17 (fun y => hne (z.trans y)), gf2]
      · rw [if_neg z, rp.see k hk z hne, frf]
    · have s18 := rp.s18
      have ei : (-1 - (nsee σ' (X.A 18 qq).toInt.toNat).toInt).toNat = S.nk := by omega
      refine Or.inr (Or.inr ⟨hX.fo.ge _ _ _ y9, by omega, by rw [ei, s2']; omega, by rw [ei, kt1]; exact .rfl', ?_⟩)
      rw [ei, mu1, n1 _ (by omega), if_pos rfl]
  · rw [s2', sumE]
    omega
end
end
